/** The boundary cases of the promises 1 to 10. */
final class TypeBoundaries {
    private static final int MIN = Integer.MIN_VALUE;
    private static final int MAX = Integer.MAX_VALUE;
    private final Boundaries b;

    TypeBoundaries(Boundaries b) {
        this.b = b;
    }

    void run() {
        newObject();
        addType();
        addConstructorArity();
        addConstructorIgnores();
        addConstructorTypes();
        addConstructorFull();
        resultTypeAndArity();
        argumentType();
        cardinalityOfFewValues();
        cardinalityAtMany();
        cardinalityInfinite();
        smallestSize();
        countSizes();
        countAtMany();
        valueOrderOfChecks();
        valueIndex();
        valueIndexAtMany();
        valueNodes();
        valueFull();
    }

    private void newObject() {
        b.says(1, "No types, no constructors, no nodes, no rows, no saved bindings.");
        Counted x = new Counted();
        b.due("no types: cardinality(0)", x.cardinality(0), -1);
        b.due("no types: smallestSize(0)", x.smallestSize(0), -1);
        b.due("no types: count(0, 1)", x.count(0, 1), -1);
        b.due("no types: value(0, 1, 0)", x.value(0, 1, 0), -1);
        b.due("no types: variable(0)", x.variable(0), -1);
        b.due("no types: addConstructor", x.addConstructor(0, 0, 0, 0, 0), -1);
        b.due("no constructors: resultType(0)", x.resultType(0), -2);
        b.due("no constructors: arity(0)", x.arity(0), -2);
        b.due("no constructors: argumentType(0, 0)", x.argumentType(0, 0), -2);
        b.due("no constructors: term(0, 0, 0, 0)", x.term(0, 0, 0, 0), -2);
        b.due("no nodes: nodeCount()", x.nodeCount(), 0);
        b.due("no nodes: nodeType(0)", x.nodeType(0), -3);
        b.due("no nodes: head(0)", x.head(0), -3);
        b.due("no nodes: child(0, 0)", x.child(0, 0), -3);
        b.due("no nodes: binding(0)", x.binding(0), -3);
        b.due("no nodes: size(0)", x.size(0), -3);
        b.due("no nodes: rank(0)", x.rank(0), -3);
        b.due("no nodes: equal(0, 0)", x.equal(0, 0), -3);
        b.due("no nodes: unify(0, 0)", x.unify(0, 0), -3);
        b.due("no nodes: addRow(0)", x.addRow(0), -3);
        b.due("no nodes: firstMatch(0)", x.firstMatch(0), -3);
        b.due("no nodes: boundCount()", x.boundCount(), 0);
        b.due("no nodes: unbindAll()", x.unbindAll(), 0);
        b.due("no rows: uncovered(1)", x.uncovered(1), -11);
        b.due("no rows: firstUncovered(1)", x.firstUncovered(1), -11);
        b.due("no rows: coveredBy(0, 1)", x.coveredBy(0, 1), -11);
        b.due("no rows: clearRows()", x.clearRows(), 0);
        b.due("no saved bindings: pop()", x.pop(), -12);
        b.due("the first saved state", x.push(), 1);
        Counted other = new Counted();
        x.addType();
        b.due("another object has its own types", other.addType(), 0);
        b.due("another object has its own saved states", other.pop(), -12);
    }

    private void addType() {
        b.says(2, "Adds a type without constructors; returns its number");
        Counted x = new Counted();
        for (int type = 0; type < 4; type++) {
            b.due("not there yet", x.cardinality(type), -1);
            b.due("addType()", x.addType(), type);
            b.due("without constructors: cardinality", x.cardinality(type), 0);
            b.due("without constructors: smallestSize", x.smallestSize(type), -13);
            b.due("without constructors: count", x.count(type, 1), 0);
            b.due("without constructors: value", x.value(type, 1, 0), -13);
            b.due("not the next one", x.cardinality(type + 1), -1);
        }
        b.says(2, "or FULL if there are 4 types.");
        b.due("the fifth", x.addType(), -6);
        b.due("the fifth again", x.addType(), -6);
        b.due("no fifth type", x.cardinality(4), -1);
        Twins.State three = () -> Boundaries.withTypes(3);
        b.due("the fourth", three.make().addType(), 3);
        b.refused("the fifth", () -> Boundaries.withTypes(4), Counted::addType, -6);
    }

    private void addConstructorArity() {
        b.says(3, "arity: 0 to 3");
        for (int arity = 0; arity <= 3; arity++) {
            Counted x = Boundaries.withTypes(1);
            b.due("arity " + arity, x.addConstructor(0, arity, 0, 0, 0), 0);
            b.due("it is kept", x.arity(0), arity);
        }
        b.says(3, "OUT_OF_RANGE if the arity is out of range (checked first)");
        for (int arity : new int[] {MIN, -1, 4, 5, MAX}) {
            b.refused("arity " + arity, () -> Boundaries.withTypes(1),
                    x -> x.addConstructor(0, arity, 0, 0, 0), -4);
            b.refused("before a missing result type, arity " + arity, () -> Boundaries.withTypes(1),
                    x -> x.addConstructor(1, arity, 0, 0, 0), -4);
            b.refused("before missing argument types, arity " + arity, () -> Boundaries.withTypes(1),
                    x -> x.addConstructor(0, arity, 9, 9, 9), -4);
            b.refused("before full, arity " + arity, () -> constructors(12),
                    x -> x.addConstructor(0, arity, 0, 0, 0), -4);
            b.refused("before all, arity " + arity, () -> constructors(12),
                    x -> x.addConstructor(-1, arity, 9, -9, 9), -4);
        }
    }

    private void addConstructorIgnores() {
        b.says(3, "Adds a constructor. Types of arguments beyond the arity are ignored.");
        for (int ignored : new int[] {MIN, -1, 1, 4, MAX}) {
            Counted x = Boundaries.withTypes(1);
            b.due("all three ignored", x.addConstructor(0, 0, ignored, ignored, ignored), 0);
            b.due("two ignored", x.addConstructor(0, 1, 0, ignored, ignored), 1);
            b.due("one ignored", x.addConstructor(0, 2, 0, 0, ignored), 2);
            b.due("none ignored", x.addConstructor(0, 3, 0, 0, ignored), -1);
            b.due("no argument 0", x.argumentType(0, 0), -13);
            b.due("no argument 1", x.argumentType(1, 1), -13);
            b.due("no argument 2", x.argumentType(2, 2), -13);
        }
    }

    private void addConstructorTypes() {
        b.says(3, "type: result type");
        b.says(3, "a: type of the first argument");
        b.says(3, "b: type of the second argument");
        b.says(3, "c: type of the third argument");
        Counted x = Boundaries.withTypes(4);
        b.due("all four types", x.addConstructor(3, 3, 0, 1, 2), 0);
        b.due("result type", x.resultType(0), 3);
        b.due("first", x.argumentType(0, 0), 0);
        b.due("second", x.argumentType(0, 1), 1);
        b.due("third", x.argumentType(0, 2), 2);
        b.says(3, "NO_SUCH_TYPE if the result type or the type of an argument does not exist (checked second)");
        for (int missing : new int[] {MIN, -1, 2, 3, MAX}) {
            Twins.State two = () -> Boundaries.withTypes(2);
            b.refused("result type " + missing, two, y -> y.addConstructor(missing, 0, 0, 0, 0), -1);
            b.refused("first of one " + missing, two, y -> y.addConstructor(1, 1, missing, 0, 0), -1);
            b.refused("first of two " + missing, two, y -> y.addConstructor(1, 2, missing, 0, 0), -1);
            b.refused("second of two " + missing, two, y -> y.addConstructor(1, 2, 0, missing, 0), -1);
            b.refused("first of three " + missing, two, y -> y.addConstructor(1, 3, missing, 0, 0), -1);
            b.refused("second of three " + missing, two, y -> y.addConstructor(1, 3, 0, missing, 0), -1);
            b.refused("third of three " + missing, two, y -> y.addConstructor(1, 3, 1, 1, missing), -1);
        }
        for (int missing : new int[] {MIN, -1, 1, MAX}) {
            Twins.State full = () -> constructors(12);
            b.refused("before full: result type " + missing, full,
                    y -> y.addConstructor(missing, 0, 0, 0, 0), -1);
            b.refused("before full: first " + missing, full, y -> y.addConstructor(0, 1, missing, 0, 0), -1);
            b.refused("before full: second " + missing, full, y -> y.addConstructor(0, 2, 0, missing, 0), -1);
            b.refused("before full: third " + missing, full, y -> y.addConstructor(0, 3, 0, 0, missing), -1);
        }
        Counted last = Boundaries.withTypes(2);
        b.due("the last type is there", last.addConstructor(1, 3, 1, 1, 1), 0);
        b.due("a type may be its own argument", last.argumentType(0, 2), 1);
    }

    private void addConstructorFull() {
        b.says(3, "Returns the number of the constructor;");
        b.says(3, "FULL if there are 12 constructors.");
        Counted x = Boundaries.withTypes(1);
        for (int number = 0; number < 12; number++) {
            b.due("constructor " + number, x.addConstructor(0, 0, 0, 0, 0), number);
            b.due("values so far", x.cardinality(0), number + 1);
        }
        b.due("the 13th", x.addConstructor(0, 0, 0, 0, 0), -6);
        b.due("it adds no value", x.cardinality(0), 12);
        b.due("the 12th after 11", constructors(11).addConstructor(0, 3, 0, 0, 0), 11);
        for (int arity = 0; arity <= 3; arity++) {
            int wanted = arity;
            b.refused("the 13th, of arity " + arity, () -> constructors(12),
                    y -> y.addConstructor(0, wanted, 0, 0, 0), -6);
        }
        b.refused("the 13th, of another type", States::full, y -> y.addConstructor(3, 0, 0, 0, 0), -6);
    }

    /** One type with so many constructors without arguments. */
    private static Counted constructors(int total) {
        Counted x = Boundaries.withTypes(1);
        for (int i = 0; i < total; i++) {
            x.addConstructor(0, 0, 0, 0, 0);
        }
        return x;
    }

    private void resultTypeAndArity() {
        b.says(4, "Returns the result type of a constructor, or NO_SUCH_CONSTRUCTOR.");
        b.says(5, "Returns the arity of a constructor, or NO_SUCH_CONSTRUCTOR.");
        Counted x = Boundaries.withTypes(4);
        for (int number = 0; number < 12; number++) {
            b.due("resultType(" + number + ") too early", x.resultType(number), -2);
            b.due("arity(" + number + ") too early", x.arity(number), -2);
            x.addConstructor(3 - number % 4, (number + 1) % 4, 0, 0, 0);
            b.due("resultType(" + number + ")", x.resultType(number), 3 - number % 4);
            b.due("arity(" + number + ")", x.arity(number), (number + 1) % 4);
        }
        for (int missing : new int[] {MIN, -1, 12, 13, MAX}) {
            b.due("resultType(" + missing + ")", x.resultType(missing), -2);
            b.due("arity(" + missing + ")", x.arity(missing), -2);
            b.refused("resultType(" + missing + ")", States::full, y -> y.resultType(missing), -2);
            b.refused("arity(" + missing + ")", States::full, y -> y.arity(missing), -2);
        }
        b.due("the first stands", x.resultType(0), 3);
        b.due("the last stands", x.resultType(11), 0);
    }

    private void argumentType() {
        Counted x = Boundaries.withTypes(4);
        for (int arity = 0; arity <= 3; arity++) {
            x.addConstructor(0, arity, 3, 2, 1);
        }
        b.says(6, "Returns the type of argument k (from 0) of a constructor;");
        for (int arity = 0; arity <= 3; arity++) {
            for (int k = 0; k < arity; k++) {
                b.due("argumentType(" + arity + ", " + k + ")", x.argumentType(arity, k), 3 - k);
            }
        }
        b.says(6, "NONE if it has no such argument.");
        for (int arity = 0; arity <= 3; arity++) {
            for (int k : new int[] {MIN, -1, arity, arity + 1, MAX}) {
                b.due("argumentType(" + arity + ", " + k + ")", x.argumentType(arity, k), -13);
            }
        }
        b.says(6, "NO_SUCH_CONSTRUCTOR if there is no such constructor (checked first);");
        for (int missing : new int[] {MIN, -1, 4, MAX}) {
            for (int k : new int[] {MIN, -1, 0, 2, 3, MAX}) {
                b.due("argumentType(" + missing + ", " + k + ")", x.argumentType(missing, k), -2);
            }
        }
        b.refused("no constructor and no argument", States::full, y -> y.argumentType(12, 3), -2);
        b.refused("no argument", States::full, y -> y.argumentType(States.TRIPLE, 3), -13);
    }

    private void cardinalityOfFewValues() {
        b.says(7, "Returns the number of values of a type,");
        Counted x = Boundaries.withTypes(4);
        b.due("none without constructors", x.cardinality(0), 0);
        x.addConstructor(0, 1, 1, 0, 0);
        b.due("none by an empty argument", x.cardinality(0), 0);
        x.addConstructor(1, 1, 0, 0, 0);
        b.due("none by a circle of types", x.cardinality(0), 0);
        b.due("none by a circle of types", x.cardinality(1), 0);
        x.addConstructor(2, 0, 0, 0, 0);
        b.due("one", x.cardinality(2), 1);
        x.addConstructor(2, 2, 2, 0, 0);
        b.due("an empty argument beside a full one", x.cardinality(2), 1);
        x.addConstructor(2, 3, 2, 2, 1);
        b.due("an empty argument as the third", x.cardinality(2), 1);
        x.addConstructor(3, 3, 2, 2, 2);
        b.due("one triple", x.cardinality(3), 1);
        x.addConstructor(2, 0, 0, 0, 0);
        b.due("eight triples", x.cardinality(3), 8);
        b.says(7, "NO_SUCH_TYPE if there is no such type.");
        for (int missing : new int[] {MIN, -1, 4, 5, MAX}) {
            b.due("cardinality(" + missing + ")", x.cardinality(missing), -1);
        }
        b.due("the type just below", x.cardinality(3), 8);
        b.due("the type just above", Boundaries.withTypes(3).cardinality(3), -1);
        b.refused("no such type", States::worked, y -> y.cardinality(3), -1);
    }

    private void cardinalityAtMany() {
        b.says(7, "at most MANY;");
        b.says("MANY = 1000000: Counts of values are not greater than this;"
                + " a greater number is returned as this number.");
        Counted x = Boundaries.withTypes(4);
        for (int i = 0; i < 3; i++) {
            x.addConstructor(0, 0, 0, 0, 0);
        }
        x.addConstructor(1, 3, 0, 0, 0);
        b.due("3 * 3 * 3", x.cardinality(1), 27);
        x.addConstructor(2, 2, 1, 1, 0);
        x.addConstructor(2, 1, 1, 0, 0);
        x.addConstructor(2, 3, 0, 1, 0);
        b.due("27 * 27 + 27 + 3 * 27 * 3", x.cardinality(2), 999);
        x.addConstructor(3, 2, 2, 2, 0);
        x.addConstructor(3, 1, 2, 0, 0);
        b.due("999 * 999 + 999", x.cardinality(3), 999000);
        x.addConstructor(3, 1, 2, 0, 0);
        b.due("one below MANY", x.cardinality(3), 999999);
        x.addConstructor(3, 0, 0, 0, 0);
        b.due("exactly MANY", x.cardinality(3), 1000000);
        x.addConstructor(3, 0, 0, 0, 0);
        b.due("one above MANY", x.cardinality(3), 1000000);
        b.due("what it is made of is not cut", x.cardinality(2), 999);

        Counted huge = Boundaries.withTypes(4);
        for (int i = 0; i < 9; i++) {
            huge.addConstructor(0, 0, 0, 0, 0);
        }
        for (int type = 1; type < 4; type++) {
            huge.addConstructor(type, 3, type - 1, type - 1, type - 1);
        }
        b.due("9^3", huge.cardinality(1), 729);
        b.due("9^9 is above MANY", huge.cardinality(2), 1000000);
        b.due("9^27 is above what a long holds", huge.cardinality(3), 1000000);
    }

    private void cardinalityInfinite() {
        b.says("INFINITE = -14: Returned by cardinality for a type with infinitely many values.");
        b.says(7, "INFINITE if it has infinitely many;");
        b.due("INFINITE", DatatypeTerms.INFINITE, -14);
        Counted x = Boundaries.withTypes(4);
        x.addConstructor(0, 1, 0, 0, 0);
        b.due("endless values are none", x.cardinality(0), 0);
        x.addConstructor(0, 0, 0, 0, 0);
        b.due("a way out makes infinitely many", x.cardinality(0), -14);
        x.addConstructor(1, 2, 0, 2, 0);
        b.due("infinite times none is none", x.cardinality(1), 0);
        x.addConstructor(2, 0, 0, 0, 0);
        b.due("infinite times one is infinite", x.cardinality(1), -14);
        b.due("the one stays one", x.cardinality(2), 1);

        Counted circle = Boundaries.withTypes(4);
        for (int type = 0; type < 4; type++) {
            circle.addConstructor(type, 1, (type + 1) % 4, 0, 0);
        }
        b.due("a circle of four types without a way out", circle.cardinality(0), 0);
        circle.addConstructor(2, 0, 0, 0, 0);
        for (int type = 0; type < 4; type++) {
            b.due("a circle of four types with a way out", circle.cardinality(type), -14);
        }

        infiniteTimesOthers();
        Counted chain = Boundaries.withTypes(4);
        for (int type = 0; type < 3; type++) {
            chain.addConstructor(type, 1, type + 1, 0, 0);
        }
        chain.addConstructor(3, 0, 0, 0, 0);
        b.due("a chain of four types", chain.cardinality(0), 1);
        chain.addConstructor(3, 1, 3, 0, 0);
        b.due("infinite at the end of the chain", chain.cardinality(0), -14);
        Counted backwards = Boundaries.withTypes(4);
        for (int type = 3; type > 0; type--) {
            backwards.addConstructor(type, 1, type - 1, 0, 0);
        }
        backwards.addConstructor(0, 0, 0, 0, 0);
        b.due("a chain the other way", backwards.cardinality(3), 1);
        backwards.addConstructor(0, 1, 0, 0, 0);
        b.due("infinite at the end of the chain the other way", backwards.cardinality(3), -14);
    }

    private void infiniteTimesOthers() {
        for (int arity = 1; arity <= 3; arity++) {
            Counted own = Boundaries.withTypes(1);
            own.addConstructor(0, arity, 0, 0, 0);
            b.due("no way out of arity " + arity, own.cardinality(0), 0);
            own.addConstructor(0, 0, 0, 0, 0);
            b.due("a way out of arity " + arity, own.cardinality(0), -14);
            own.addConstructor(0, 0, 0, 0, 0);
            b.due("two ways out of arity " + arity, own.cardinality(0), -14);
        }
        // Type 0 is infinite, type 1 has two values, type 2 none.
        for (int place = 0; place < 3; place++) {
            Counted x = Boundaries.withTypes(4);
            x.addConstructor(0, 1, 0, 0, 0);
            x.addConstructor(0, 0, 0, 0, 0);
            x.addConstructor(1, 0, 0, 0, 0);
            x.addConstructor(1, 0, 0, 0, 0);
            x.addConstructor(3, 3, place == 0 ? 2 : 0, place == 1 ? 2 : 0, place == 2 ? 2 : 0);
            b.due("infinite times infinite times none", x.cardinality(3), 0);
            x.addConstructor(3, 3, 1, 1, 1);
            b.due("2 * 2 * 2", x.cardinality(3), 8);
            x.addConstructor(3, 3, place == 0 ? 0 : 1, place == 1 ? 0 : 1, place == 2 ? 0 : 1);
            b.due("infinite times two times two", x.cardinality(3), -14);
            x.addConstructor(3, 2, 0, 0, 0);
            b.due("infinite times infinite", x.cardinality(3), -14);
        }
    }

    private void smallestSize() {
        b.says(8, "Returns the size of the smallest value of a type;");
        Counted x = Boundaries.withTypes(4);
        for (int type = 0; type < 3; type++) {
            x.addConstructor(type, 3, type + 1, type + 1, type + 1);
        }
        b.says(8, "NONE if it has no values;");
        for (int type = 0; type < 4; type++) {
            b.due("no values yet", x.smallestSize(type), -13);
        }
        x.addConstructor(3, 0, 0, 0, 0);
        b.due("1", x.smallestSize(3), 1);
        b.due("1 + 3", x.smallestSize(2), 4);
        b.due("1 + 3 * 4, more than count takes", x.smallestSize(1), 13);
        b.due("1 + 3 * 13, the greatest there can be", x.smallestSize(0), 40);
        x.addConstructor(0, 3, 2, 2, 1);
        b.due("1 + 4 + 4 + 13", x.smallestSize(0), 22);
        x.addConstructor(0, 3, 0, 0, 0);
        b.due("a greater way changes nothing", x.smallestSize(0), 22);
        x.addConstructor(0, 0, 0, 0, 0);
        b.due("a leaf", x.smallestSize(0), 1);
        b.due("others stay", x.smallestSize(1), 13);
        Counted later = Boundaries.withTypes(2);
        later.addConstructor(1, 0, 0, 0, 0);
        for (int arity = 3; arity >= 0; arity--) {
            later.addConstructor(0, arity, 1, 1, 1);
            b.due("each later constructor has a smaller value", later.smallestSize(0), arity + 1);
        }
        later.addConstructor(0, 1, 1, 0, 0);
        b.due("a later one with a greater value", later.smallestSize(0), 1);
        Counted backwards = Boundaries.withTypes(4);
        backwards.addConstructor(0, 0, 0, 0, 0);
        for (int type = 1; type < 4; type++) {
            backwards.addConstructor(type, 3, type - 1, type - 1, type - 1);
        }
        b.due("the greatest there can be, the other way", backwards.smallestSize(3), 40);
        b.says(8, "NO_SUCH_TYPE if there is no such type.");
        for (int missing : new int[] {MIN, -1, 4, MAX}) {
            b.due("smallestSize(" + missing + ")", x.smallestSize(missing), -1);
        }
        b.due("the type just above", Boundaries.withTypes(3).smallestSize(3), -1);
        b.due("the last type", Boundaries.withTypes(3).smallestSize(2), -13);
        b.refused("no values", States::worked, y -> y.smallestSize(2), -13);
        b.refused("no such type", States::worked, y -> y.smallestSize(3), -1);
    }

    private void countSizes() {
        b.says(9, "size: 1 to 12 Returns the number;");
        Counted x = Boundaries.withTypes(2);
        x.addConstructor(0, 0, 0, 0, 0);
        x.addConstructor(0, 1, 0, 0, 0);
        for (int size = 1; size <= 12; size++) {
            b.due("one chain of size " + size, x.count(0, size), 1);
            b.due("none of size " + size, x.count(1, size), 0);
        }
        b.says(9, "OUT_OF_RANGE if size is out of range.");
        for (int size : new int[] {MIN, -1, 0, 13, 14, MAX}) {
            b.due("count(0, " + size + ")", x.count(0, size), -4);
            b.due("no values: count(1, " + size + ")", x.count(1, size), -4);
            b.refused("size " + size, States::worked, y -> y.count(1, size), -4);
        }
        b.says(9, "NO_SUCH_TYPE if there is no such type (checked first);");
        for (int type : new int[] {MIN, -1, 2, MAX}) {
            for (int size : new int[] {MIN, 0, 1, 12, 13, MAX}) {
                b.due("count(" + type + ", " + size + ")", x.count(type, size), -1);
            }
        }
        b.refused("type before size", States::worked, y -> y.count(3, 13), -1);
        // A pair, a triple and one alone of sizes 12 and next to it: 1 + 11, 1 + 1 + 10 and 1 + 1 + 1 + 9.
        Counted wide = Boundaries.withTypes(2);
        wide.addConstructor(0, 0, 0, 0, 0);
        wide.addConstructor(0, 1, 0, 0, 0);
        wide.addConstructor(1, 2, 0, 0, 0);
        b.due("pairs of 2", wide.count(1, 2), 0);
        b.due("pairs of 3", wide.count(1, 3), 1);
        b.due("pairs of 12", wide.count(1, 12), 10);
        wide.addConstructor(1, 3, 0, 0, 0);
        b.due("and triples of 3", wide.count(1, 3), 1);
        b.due("and triples of 4", wide.count(1, 4), 3);
        b.due("and triples of 12", wide.count(1, 12), 10 + 45);
    }

    /**
     * Type 0: five leaves and triples. Type 1: lists of type 0, not empty, with a million values of
     * size 11. Type 2: chains, one of each size. Type 3: a list, with a million values of size 12.
     */
    static Counted million() {
        Counted x = Boundaries.withTypes(4);
        for (int i = 0; i < 5; i++) {
            x.addConstructor(0, 0, 0, 0, 0);
        }
        x.addConstructor(0, 3, 0, 0, 0);
        x.addConstructor(1, 1, 0, 0, 0);
        x.addConstructor(1, 2, 1, 0, 0);
        x.addConstructor(2, 0, 0, 0, 0);
        x.addConstructor(2, 1, 2, 0, 0);
        x.addConstructor(3, 1, 1, 0, 0);
        return x;
    }

    /** Two types; type 1 has 999999 values of size 10. */
    static Counted millionLessOne() {
        Counted x = Boundaries.withTypes(2);
        x.addConstructor(0, 0, 0, 0, 0);
        x.addConstructor(0, 0, 0, 0, 0);
        x.addConstructor(0, 1, 0, 0, 0);
        x.addConstructor(0, 1, 1, 0, 0);
        x.addConstructor(0, 2, 1, 0, 0);
        x.addConstructor(1, 0, 0, 0, 0);
        x.addConstructor(1, 0, 0, 0, 0);
        x.addConstructor(1, 0, 0, 0, 0);
        x.addConstructor(1, 1, 1, 0, 0);
        x.addConstructor(1, 1, 0, 0, 0);
        x.addConstructor(1, 3, 1, 1, 0);
        x.addConstructor(1, 3, 0, 1, 1);
        return x;
    }

    private void countAtMany() {
        b.says(9, "Returns the number of values of a type with a size, at most MANY.");
        b.due("one below MANY", millionLessOne().count(1, 10), 999999);
        Counted x = million();
        b.due("exactly MANY", x.count(1, 11), 1000000);
        b.due("exactly MANY, by one alone", x.count(3, 12), 1000000);
        x.addConstructor(3, 1, 2, 0, 0);
        b.due("one above MANY", x.count(3, 12), 1000000);
        b.due("the chains", x.count(2, 11), 1);
        Counted huge = Boundaries.withTypes(1);
        for (int i = 0; i < 9; i++) {
            huge.addConstructor(0, 0, 0, 0, 0);
        }
        for (int i = 0; i < 3; i++) {
            huge.addConstructor(0, 3, 0, 0, 0);
        }
        b.due("3 * 9^3", huge.count(0, 4), 2187);
        b.due("3 * 3 * 2187 * 81 is above MANY", huge.count(0, 7), 1000000);
        b.due("above what an int holds", huge.count(0, 10), 1000000);
        b.due("none of size 12", huge.count(0, 12), 0);
    }

    private void valueOrderOfChecks() {
        int[] sizes = {MIN, -1, 0, 13, 14, MAX};
        int[] indices = {MIN, -1, 0, 1, 1000000, MAX};
        b.says(10, "NO_SUCH_TYPE if there is no such type (checked first);");
        for (int type : new int[] {MIN, -1, 4, MAX}) {
            for (int size : new int[] {0, 1, 12, 13}) {
                b.refused("value(" + type + ", " + size + ", -1)", States::full, x -> x.value(type, size, -1), -1);
                b.refused("value(" + type + ", " + size + ", 0)", States::full, x -> x.value(type, size, 0), -1);
            }
        }
        b.due("the type just above", Boundaries.withTypes(3).value(3, 1, 0), -1);
        b.says(10, "OUT_OF_RANGE if size is out of range (checked second);");
        for (int size : sizes) {
            for (int index : indices) {
                b.refused("value(1, " + size + ", " + index + ")", States::worked,
                        x -> x.value(1, size, index), -4);
                b.refused("before full: value(1, " + size + ", " + index + ")", States::full,
                        x -> x.value(1, size, index), -4);
            }
            b.refused("no values: value(2, " + size + ", 0)", States::worked, x -> x.value(2, size, 0), -4);
        }
        b.says(10, "size: 1 to 12");
        Counted chains = Boundaries.withTypes(1);
        chains.addConstructor(0, 0, 0, 0, 0);
        chains.addConstructor(0, 1, 0, 0, 0);
        b.due("size 1", chains.value(0, 1, 0), 0);
        b.due("size 12", chains.value(0, 12, 0), 12);
        b.due("its size", chains.size(12), 12);
        b.due("size 2", chains.value(0, 2, 0), 14);
    }

    private void valueIndex() {
        b.says(10, "index: from 0");
        b.says(10, "NONE if the index is negative or not less than count(type, size) (checked third;");
        for (int size = 1; size <= 12; size++) {
            Counted x = Boundaries.trees();
            int wanted = size;
            int count = x.count(0, size);
            int root = x.value(0, size, 0);
            b.due("first of size " + size, root, size - 1);
            b.due("its rank", x.rank(root), 0);
            root = x.value(0, size, count - 1);
            b.due("last of size " + size, root, 2 * size - 1);
            b.due("its rank", x.rank(root), count - 1);
            b.due("its size", x.size(root), size);
            for (int index : new int[] {MIN, -1, count, count + 1, MAX}) {
                b.refused("value(0, " + size + ", " + index + ")", Boundaries::trees,
                        y -> y.value(0, wanted, index), -13);
            }
        }
        for (int size = 1; size <= 12; size++) {
            int wanted = size;
            b.refused("no values of size " + size, States::worked, x -> x.value(2, wanted, 0), -13);
            b.refused("none before full, size " + size, States::full, x -> x.value(2, wanted, 0), -13);
            b.refused("negative before full, size " + size, States::full, x -> x.value(1, wanted, -1), -13);
        }
        b.refused("no list of size 2", States::worked, x -> x.value(1, 2, 0), -13);
        b.refused("count before full", States::full, x -> x.value(1, 3, 3), -13);
    }

    private void valueIndexAtMany() {
        b.says(10, "if that count is MANY, there is a value for every index below MANY);");
        Counted below = millionLessOne();
        b.due("999999 values, the last", below.value(1, 10, 999998), 9);
        b.due("its rank", below.rank(9), 999998);
        b.due("999999 values, the next", below.value(1, 10, 999999), -13);
        b.due("nothing was created", below.nodeCount(), 10);
        Counted exact = million();
        b.due("a million values, the last", exact.value(1, 11, 999999), 10);
        b.due("its rank", exact.rank(10), 999999);
        b.due("a million values, the next", exact.value(1, 11, 1000000), -13);
        Counted above = million();
        above.addConstructor(3, 1, 2, 0, 0);
        b.due("a million and one, the last that has an index", above.value(3, 12, 999999), 11);
        b.due("its rank", above.rank(11), 999999);
        b.due("a million and one, the next", above.value(3, 12, 1000000), -13);
        b.due("a million and one, the next but one", above.value(3, 12, 1000001), -13);
        b.due("nothing was created", above.nodeCount(), 12);
        Counted huge = Boundaries.trees();
        for (int i = 0; i < 8; i++) {
            huge.addConstructor(0, i % 4, 0, 0, 0);
        }
        b.due("above MANY", huge.count(0, 12), 1000000);
        int[] indices = {0, 1, 499999, 500000, 999998, 999999};
        for (int i = 0; i < indices.length; i++) {
            int root = huge.value(0, 12, indices[i]);
            b.due("value(0, 12, " + indices[i] + ")", root, 12 * i + 11);
            b.due("its rank", huge.rank(root), indices[i]);
            b.due("its size", huge.size(root), 12);
        }
        for (int index : new int[] {1000000, 1000001, MAX}) {
            b.due("value(0, 12, " + index + ")", huge.value(0, 12, index), -13);
        }
        b.refused("index MANY", TypeBoundaries::million, x -> x.value(1, 11, 1000000), -13);
    }

    private void valueNodes() {
        b.says(10, "Creates nodes for the value of a type with a size and an index.");
        b.says(10, "For each constructor occurrence of the value one new node is created.");
        b.says(10, "The children of a node are created before the node, the first child with everything"
                + " below it first, so that the root is created last.");
        b.says(10, "Returns the root;");
        Counted x = Boundaries.trees();
        x.variable(0);
        x.variable(0);
        int last = x.count(0, 6) - 1;
        int root = x.value(0, 6, last);
        b.holds("the last of size 6 is 3(2(0,0),0,0)", Boundaries.text(x, root).equals("3(2(0,0),0,0)"));
        b.due("the root is the last node", root, 7);
        b.due("six nodes more", x.nodeCount(), 8);
        b.due("in the order of creation",
                new int[] {x.head(2), x.head(3), x.head(4), x.head(5), x.head(6), x.head(7)}, 0, 0, 2, 0, 0, 3);
        b.due("the children of the root", new int[] {x.child(7, 0), x.child(7, 1), x.child(7, 2)}, 4, 5, 6);
        b.due("the children of the first child", new int[] {x.child(4, 0), x.child(4, 1)}, 2, 3);
        b.due("equal values have nodes of their own", x.value(0, 6, last), 13);
        b.due("with children of their own", x.child(13, 0), 10);
        b.due("and are equal", x.equal(7, 13), 1);
        b.due("nothing is bound", x.boundCount(), 0);
        b.due("a value is no variable", x.binding(13), -13);
    }

    private void valueFull() {
        b.says(10, "FULL if there would be more than 100 nodes.");
        for (int size : new int[] {1, 2, 6, 11, 12}) {
            Twins.State justFits = () -> Boundaries.treesWithVariables(100 - size);
            Twins.State oneTooMany = () -> Boundaries.treesWithVariables(101 - size);
            Counted x = justFits.make();
            b.due("just fits, size " + size, x.value(0, size, 0), 99);
            b.due("100 nodes", x.nodeCount(), 100);
            b.due("the size of it", x.size(99), size);
            b.refused("one node too many, size " + size, oneTooMany, y -> y.value(0, size, 0), -6);
            b.refused("100 nodes, size " + size, () -> Boundaries.treesWithVariables(100),
                    y -> y.value(0, size, 0), -6);
        }
        Counted smaller = Boundaries.treesWithVariables(95);
        b.due("six do not fit", smaller.value(0, 6, 0), -6);
        b.due("five still do", smaller.value(0, 5, 0), 99);
    }
}
