/** The boundary cases of the sections 'What it is', 'Description' and 'Not promised'. */
final class DescriptionBoundaries {
    private final Boundaries b;

    DescriptionBoundaries(Boundaries b) {
        this.b = b;
    }

    void run() {
        errors();
        types();
        valuesAreFinite();
        orderBySize();
        orderByConstructor();
        orderByArguments();
        nodes();
        terms();
        all512Calls();
        laterCalls();
        notPromised();
    }

    /** RefusalTest looks at each method and each combination of its errors. */
    private void errors() {
        b.says("A call that returns one of the error codes changes nothing.");
        b.refused("addType()", States::full, Counted::addType, -6);
        b.refused("value(1, 5, 0)", States::full, x -> x.value(1, 5, 0), -6);
        b.refused("unify(..)", States::full, x -> x.unify(States.BINDS_THEN_CLASHES, States.CLASHES), -7);
        b.says("When several errors apply, a method returns the one that its description lists first.");
        b.refused("arity, type and full", States::full, x -> x.addConstructor(9, 9, 9, 9, 9), -4);
        b.refused("type and full", States::full, x -> x.addConstructor(9, 0, 0, 0, 0), -1);
        b.refused("constructor, node and full", States::full, x -> x.term(99, 999, 999, 999), -2);
        b.refused("node, wrong type and full", States::full,
                x -> x.term(States.CONS, States.EMPTY_LIST, 999, 0), -3);
        b.refused("wrong type and full", States::full,
                x -> x.term(States.CONS, States.EMPTY_LIST, States.EMPTY_LIST, 0), -5);
    }

    private void types() {
        b.says("TYPES. There are up to 4 types and up to 12 constructors, both numbered from 0 in the order of"
                + " their definition.");
        b.says("A constructor has a result type and 0 to 3 argument types, its arity.");
        Counted x = new Counted();
        int constructor = 0;
        for (int type = 0; type < 4; type++) {
            b.due("addType()", x.addType(), type);
            for (int i = 0; i < 3; i++) {
                b.due("addConstructor", x.addConstructor(type, i + type % 2, type, 0, 0), constructor);
                b.due("its type", x.resultType(constructor), type);
                b.due("its arity", x.arity(constructor), i + type % 2);
                constructor++;
            }
        }
        b.due("no fifth type", x.addType(), -6);
        b.due("no 13th constructor", x.addConstructor(0, 0, 0, 0, 0), -6);
        b.says("A value of a type is a constructor with that result type applied to one value of each argument type.");
        Counted y = Boundaries.withTypes(2);
        y.addConstructor(0, 0, 0, 0, 0);
        y.addConstructor(0, 0, 0, 0, 0);
        y.addConstructor(1, 3, 0, 0, 0);
        b.due("2 * 2 * 2", y.cardinality(1), 8);
        b.due("of size 4", y.count(1, 4), 8);
        b.due("none of size 3", y.count(1, 3), 0);
        b.due("none of size 5", y.count(1, 5), 0);
    }

    private void valuesAreFinite() {
        b.says("All values are finite.");
        b.says("A type can have no values, finitely many, or infinitely many.");
        Counted x = Boundaries.withTypes(3);
        x.addConstructor(0, 1, 0, 0, 0);
        x.addConstructor(0, 3, 0, 0, 0);
        b.due("no values", x.cardinality(0), 0);
        b.due("no smallest one", x.smallestSize(0), -13);
        for (int size = 1; size <= 12; size++) {
            b.due("none of size " + size, x.count(0, size), 0);
        }
        x.addConstructor(1, 0, 0, 0, 0);
        b.due("finitely many", x.cardinality(1), 1);
        x.addConstructor(2, 0, 0, 0, 0);
        x.addConstructor(2, 1, 2, 0, 0);
        b.due("infinitely many", x.cardinality(2), -14);
        b.due("but not endless ones", x.smallestSize(2), 1);
        int variable = x.variable(0);
        b.due("a type without values has variables", variable, 0);
        b.due("and terms", x.term(0, variable, 0, 0), 1);
        b.due("which are not ground", x.size(1), -9);
        b.due("and can't become so by a cycle", x.unify(0, 1), -8);
    }

    private void orderBySize() {
        b.says("ORDER OF VALUES. The values of a type are ordered as follows. A smaller size comes first.");
        // The greater constructor number has the smaller value.
        Counted x = Boundaries.withTypes(2);
        x.addConstructor(0, 2, 0, 0, 0);
        x.addConstructor(0, 0, 0, 0, 0);
        x.addConstructor(1, 2, 0, 0, 0);
        x.variable(0);
        x.addRow(x.term(0, 0, 0, 0));
        b.due("the first not covered is the leaf", x.firstUncovered(8), 10000);
        // Of the pairs of size 5 the one with the smaller first argument comes first.
        int first = x.value(1, 5, 0);
        b.holds("2(1,0(1,1))", Boundaries.text(x, first).equals("2(1,0(1,1))"));
        int last = x.value(1, 5, 1);
        b.holds("2(0(1,1),1)", Boundaries.text(x, last).equals("2(0(1,1),1)"));
        b.due("rank", x.rank(first), 0);
        b.due("rank", x.rank(last), 1);
    }

    private void orderByConstructor() {
        b.says("Among values of equal size, the smaller constructor number at the root comes first.");
        // Constructors of the type stand between those of another type.
        Counted x = Boundaries.withTypes(2);
        for (int i = 0; i < 6; i++) {
            x.addConstructor(0, 0, 0, 0, 0);
            x.addConstructor(1, 1, 0, 0, 0);
        }
        b.due("6 * 6", x.count(1, 2), 36);
        for (int index = 0; index < 36; index++) {
            int root = x.value(1, 2, index);
            b.due("root of " + index, x.head(root), 2 * (index / 6) + 1);
            b.due("argument of " + index, x.head(x.child(root, 0)), 2 * (index % 6));
            b.due("rank", x.rank(root), index);
        }
    }

    private void orderByArguments() {
        b.says("Among values with equal size and equal root constructor, the arguments are compared from left to"
                + " right by this order, and the first difference decides.");
        b.says("The index of a value is its position, from 0, among the values of its type and size.");
        Counted x = Boundaries.withTypes(2);
        x.addConstructor(0, 0, 0, 0, 0);
        x.addConstructor(0, 0, 0, 0, 0);
        x.addConstructor(0, 1, 0, 0, 0);
        x.addConstructor(1, 3, 0, 0, 0);
        String[] size4 = {"3(0,0,0)", "3(0,0,1)", "3(0,1,0)", "3(0,1,1)", "3(1,0,0)", "3(1,0,1)", "3(1,1,0)",
            "3(1,1,1)"};
        inOrder(x, 4, size4);
        Counted y = Boundaries.withTypes(2);
        y.addConstructor(0, 0, 0, 0, 0);
        y.addConstructor(0, 1, 0, 0, 0);
        y.addConstructor(1, 3, 0, 0, 0);
        String[] size6 = {"2(0,0,1(1(0)))", "2(0,1(0),1(0))", "2(0,1(1(0)),0)", "2(1(0),0,1(0))", "2(1(0),1(0),0)",
            "2(1(1(0)),0,0)"};
        inOrder(y, 6, size6);
    }

    private void inOrder(Counted x, int size, String[] texts) {
        b.due("count(1, " + size + ")", x.count(1, size), texts.length);
        for (int index = 0; index < texts.length; index++) {
            int root = x.value(1, size, index);
            b.holds("value " + index + " is " + texts[index], Boundaries.text(x, root).equals(texts[index]));
            b.due("its rank", x.rank(root), index);
        }
        b.due("no other", x.value(1, size, texts.length), -13);
    }

    private void nodes() {
        b.says("NODES. There are up to 100 nodes, numbered from 0 in the order of their creation.");
        b.says("A node is a variable of a type, or a constructor with one node for each argument, its children.");
        b.says("The type of a constructor node is the result type of its constructor.");
        Counted x = Boundaries.withTypes(2);
        x.addConstructor(0, 0, 0, 0, 0);
        x.addConstructor(1, 1, 0, 0, 0);
        for (int node = 0; node < 100; node += 4) {
            b.due("a variable", x.variable(0), node);
            b.due("a constructor node", x.term(1, node, 0, 0), node + 1);
            b.due("two nodes of a value", x.value(1, 2, 0), node + 3);
            b.due("types", new int[] {x.nodeType(node), x.nodeType(node + 1), x.nodeType(node + 2),
                x.nodeType(node + 3)}, 0, 1, 0, 1);
        }
        b.due("100 nodes", x.nodeCount(), 100);
        b.due("no variable more", x.variable(0), -6);
        b.due("no term more", x.term(0, 0, 0, 0), -6);
        b.due("no value more", x.value(0, 1, 0), -6);
    }

    private void terms() {
        b.says("BINDINGS.");
        b.says("The term of a node is what one gets by resolving the node and then, if the result is a constructor"
                + " node, all its children in the same way, and so on.");
        Counted x = Boundaries.treesWithVariables(4);
        int leaf = x.term(0, 0, 0, 0);
        int inner = x.term(1, 0, 0, 0);
        int outer = x.term(3, 1, 2, leaf);
        x.unify(1, inner);
        x.unify(2, 1);
        x.unify(3, outer);
        b.holds("with a free variable", Boundaries.text(x, 3).equals("3(1(v0),1(v0),0)"));
        x.unify(0, leaf);
        b.holds("ground", Boundaries.text(x, 3).equals("3(1(0),1(0),0)"));
        b.due("its size", x.size(3), 6);
        b.due("its rank is that of the value", x.value(0, 6, x.rank(3)), 12);
        b.due("the same term", x.equal(12, 3), 1);
        b.says("UNIFICATION.");
        b.says("ROWS.");
        b.says("The constants:");
        b.says("The constructor and the methods follow, a promise each: the signature, then what it does.");
    }

    /** The dearest calls, up to the last that is promised. */
    private void all512Calls() {
        b.saysIn("What it is", "Algebraic data types: counting and enumerating their values, terms with variables,"
                + " unification with an occurs check, and coverage of pattern-match rows.");
        b.saysIn("What it is", "An object is used for at most 512 calls after it has been made;");
        Counted x = Boundaries.withTypes(2);
        for (int i = 0; i < 10; i++) {
            x.addConstructor(0, 0, 0, 0, 0);
        }
        x.addConstructor(1, 3, 0, 0, 0);
        x.addConstructor(1, 3, 0, 0, 0);
        int last = x.term(9, 0, 0, 0);
        int variable = x.variable(0);
        for (int row = 0; row < 8; row++) {
            x.addRow(x.term(11, variable, last, last));
        }
        while (x.calls() < 509) {
            b.due("of 2000", x.uncovered(4), 1990);
        }
        b.due("call 510", x.uncovered(4), 1990);
        b.due("call 511", x.coveredBy(0, 4), 10);
        b.due("call 512", x.firstUncovered(8), 40000);
        b.due("calls", x.calls(), 512);
        Counted y = Boundaries.treesWithVariables(2);
        y.term(1, 0, 0, 0);
        while (y.calls() < 511) {
            b.due("a cycle", y.unify(0, 2), -8);
        }
        b.due("call 512", y.unify(1, 2), 1);
    }

    /** They may answer anything, but LANGUAGE.md (rule 7) lets no call throw or fail to end. */
    private void laterCalls() {
        b.saysIn("What it is", "what later calls answer is free.");
        DatatypeTerms x = new DatatypeTerms();
        int made = 0;
        for (int round = -2; round < 600; round++) {
            made += x.addType() & x.addConstructor(round % 4, round % 4, 0, 1, 2) & x.resultType(round)
                    & x.arity(round) & x.argumentType(round, 0) & x.cardinality(round) & x.smallestSize(round);
            made += x.count(round % 4, round % 14) & x.value(round % 4, round % 14, round) & x.variable(round % 4)
                    & x.term(round % 12, round, round - 1, round - 2) & x.nodeCount() & x.nodeType(round);
            made += x.head(round) & x.child(round, 1) & x.binding(round) & x.size(round) & x.rank(round)
                    & x.equal(round, round / 2) & x.unify(round % 100, round / 6) & x.boundCount() & x.push();
            made += x.addRow(round % 100) & x.firstMatch(round % 100) & x.uncovered(round % 10)
                    & x.firstUncovered(round % 10) & x.coveredBy(round % 9, round % 10);
            if (round % 50 == 0) {
                made += x.pop() & x.unbindAll() & x.clearRows();
            }
        }
        b.holds("all later calls came to an end with a sum of answers, " + made, true);
    }

    /** Nothing to look at but the words: a new sentence here should be read. */
    private void notPromised() {
        b.saysIn("Not promised", "How the state is held inside the object is free, as are the speed of each call,"
                + " the text of toString and the behaviour of equals and hashCode.");
        b.saysIn("Not promised", "Use of one object from several threads at once is not promised to be safe.");
        b.saysIn("Not promised", "Nothing is promised beyond the answers and state changes described above,"
                + " and nothing about an object after its 512th call.");
    }
}
