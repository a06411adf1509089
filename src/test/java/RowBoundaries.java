/** The boundary cases of the section ROWS and of the promises 26 to 31. */
final class RowBoundaries {
    private static final int MIN = Integer.MIN_VALUE;
    private static final int MAX = Integer.MAX_VALUE;
    private final Boundaries b;

    RowBoundaries(Boundaries b) {
        this.b = b;
    }

    void run() {
        addRow();
        addRowTypes();
        addRowFull();
        clearRows();
        firstMatchOrderOfChecks();
        firstMatchOfSize60();
        firstMatch();
        currentBindings();
        sameValueAtAllPlaces();
        uncovered();
        firstUncovered();
        firstUncoveredNone();
        coveredBy();
        manyValues();
        manyValuesOfSmallerSize();
        noValues();
    }

    private void addRow() {
        b.says(26, "Adds a row with a pattern; returns its number;");
        b.says(26, "NO_SUCH_NODE if there is no such node (checked first);");
        for (int missing : new int[] {MIN, -1, States.WORKED_NODES, MAX}) {
            b.refused("addRow(" + missing + ")", States::worked, x -> x.addRow(missing), -3);
        }
        for (int missing : new int[] {MIN, -1, 100, MAX}) {
            b.refused("before full: addRow(" + missing + ")", States::full, x -> x.addRow(missing), -3);
        }
        b.refused("no nodes", States::fresh, x -> x.addRow(0), -3);
        b.due("the last node", States.worked().addRow(States.WORKED_NODES - 1), 3);
        b.due("a pattern again", States.worked().addRow(States.PATTERN), 3);
    }

    private void addRowTypes() {
        b.says(26, "WRONG_TYPE if there are rows already and their patterns have another type (checked second);");
        b.says("Each row has a pattern, which is a node; all patterns have the same type, the subject type.");
        for (int node : new int[] {States.FREE_FLAG, States.BOUND_FLAG, States.FLAG, States.VOID}) {
            b.refused("addRow(" + node + ")", States::worked, x -> x.addRow(node), -5);
            b.refused("before full: addRow(" + node + ")", States::full, x -> x.addRow(node), -5);
            Counted x = States.worked();
            x.clearRows();
            b.due("any type without rows", x.addRow(node), 0);
            b.due("the old type is another now", x.addRow(States.EMPTY_LIST), -5);
            b.due("the new type", x.addRow(node), 1);
        }
    }

    private void addRowFull() {
        b.says(26, "FULL if there are 8 rows.");
        b.says("A match has up to 8 rows, numbered from 0.");
        Counted x = Boundaries.treesWithVariables(1);
        for (int row = 0; row < 8; row++) {
            b.due("no such row yet", x.coveredBy(row, 1), row == 0 ? -11 : -4);
            b.due("addRow", x.addRow(0), row);
        }
        b.due("the ninth", x.addRow(0), -6);
        b.due("no ninth row", x.coveredBy(8, 1), -4);
        b.due("the eighth row", x.coveredBy(7, 1), 0);
        b.refused("the ninth", States::full, y -> y.addRow(States.FREE_LIST), -6);
    }

    private void clearRows() {
        b.says(27, "Removes all rows; returns how many there were.");
        for (int rows = 0; rows <= 8; rows++) {
            Counted x = Boundaries.treesWithVariables(1);
            for (int row = 0; row < rows; row++) {
                x.addRow(0);
            }
            b.due("clearRows() of " + rows, x.clearRows(), rows);
            b.due("none left", x.clearRows(), 0);
            b.due("no rows", x.uncovered(1), -11);
            b.due("the first row again", x.addRow(0), 0);
        }
        Counted full = States.full();
        b.due("of 8", full.clearRows(), 8);
        b.due("nodes stay", full.nodeCount(), 100);
        b.due("bindings stay", full.boundCount(), 11);
        b.due("saved states stay", full.push(), -6);
        b.unchanged("of none", States::fresh, Counted::clearRows, 0);
    }

    private void firstMatchOrderOfChecks() {
        b.says(28, "NO_SUCH_NODE if there is no such node (checked first);");
        Twins.State noRows = () -> {
            Counted x = States.worked();
            x.clearRows();
            return x;
        };
        for (int missing : new int[] {MIN, -1, States.WORKED_NODES, MAX}) {
            b.refused("firstMatch(" + missing + ")", States::worked, x -> x.firstMatch(missing), -3);
            b.refused("before no rows: firstMatch(" + missing + ")", noRows, x -> x.firstMatch(missing), -3);
        }
        b.says(28, "NO_ROWS if there are no rows (checked second);");
        for (int node = 0; node < States.WORKED_NODES; node++) {
            int asked = node;
            b.refused("no rows: firstMatch(" + node + ")", noRows, x -> x.firstMatch(asked), -11);
        }
        b.says(28, "WRONG_TYPE if the type of the node is not the subject type (checked third);");
        b.refused("ground", States::worked, x -> x.firstMatch(States.FLAG), -5);
        b.refused("not ground", States::worked, x -> x.firstMatch(States.FREE_FLAG), -5);
        b.refused("bound", States::worked, x -> x.firstMatch(States.BOUND_FLAG), -5);
        Twins.State flagRows = () -> {
            Counted x = States.worked();
            x.clearRows();
            x.addRow(States.FREE_FLAG);
            return x;
        };
        b.refused("wrong type before too large", flagRows, x -> x.firstMatch(States.LARGE), -5);
        b.refused("wrong type before not ground", flagRows, x -> x.firstMatch(States.CYCLES), -5);
        b.says(28, "NOT_GROUND if its term is not ground (checked fourth);");
        b.refused("a free variable", States::worked, x -> x.firstMatch(States.FREE_LIST), -9);
        b.refused("a pattern itself", States::worked, x -> x.firstMatch(States.PATTERN), -9);
        Twins.State largeAndFree = () -> {
            Counted x = States.worked();
            x.term(States.TRIPLE, States.LARGE, States.FLAG, States.FREE_LIST);
            x.term(States.TRIPLE, States.FREE_LIST, States.FLAG, States.LARGE);
            x.addRow(States.FREE_LIST);
            return x;
        };
        b.refused("not ground before too large", largeAndFree, x -> x.firstMatch(States.WORKED_NODES), -9);
        b.refused("not ground before too large", largeAndFree, x -> x.firstMatch(States.WORKED_NODES + 1), -9);
    }

    private void firstMatchOfSize60() {
        b.says(28, "TOO_LARGE if its size is greater than 60 (checked fifth);");
        // Chains, combs to the left and to the right, and one with three children at each level.
        for (int shape = 0; shape < 4; shape++) {
            for (int size : new int[] {57, 58, 59, 60, 61, 62, 63}) {
                Counted x = Boundaries.treesWithVariables(1);
                int root = shaped(x, shape, size);
                int built = x.size(root);
                b.holds("size " + built + " is near 60", built >= 55 && built <= 63);
                x.addRow(x.term(0, 0, 0, 0));
                x.addRow(root);
                x.addRow(0);
                b.due("shape " + shape + ", size " + built, x.firstMatch(root), built > 60 ? -10 : 1);
                x.clearRows();
                x.addRow(x.term(0, 0, 0, 0));
                b.due("too large before none, size " + built, x.firstMatch(root), built > 60 ? -10 : -13);
            }
        }
        Counted shared = Boundaries.trees();
        int node = shared.term(0, 0, 0, 0);
        for (int i = 0; i < 90; i++) {
            node = shared.term(2, node, node, 0);
        }
        shared.addRow(node);
        b.due("far too large", shared.firstMatch(node), -10);
        b.refused("too large", States::worked, x -> x.firstMatch(States.LARGE), -10);
    }

    /** A ground term that is not greater than a size, as great as its shape allows. */
    private static int shaped(Counted x, int shape, int size) {
        int leaf = x.term(0, 0, 0, 0);
        int node = leaf;
        int step = shape == 0 ? 1 : shape == 3 ? 3 : 2;
        for (int built = 1 + step; built <= size; built += step) {
            node = switch (shape) {
                case 0 -> x.term(1, node, 0, 0);
                case 1 -> x.term(2, node, leaf, 0);
                case 2 -> x.term(2, leaf, node, 0);
                default -> x.term(3, leaf, node, leaf);
            };
        }
        return node;
    }

    private void firstMatch() {
        b.says(28, "Returns the first match of the term of a node;");
        b.says("The first match of a value is the smallest row number whose pattern it matches.");
        Counted x = Boundaries.treesWithVariables(1);
        int leaf = x.term(0, 0, 0, 0);
        int one = x.term(1, leaf, 0, 0);
        int pattern = x.term(1, 0, 0, 0);
        for (int row = 0; row < 7; row++) {
            x.addRow(leaf);
        }
        x.addRow(pattern);
        b.due("the first of seven", x.firstMatch(leaf), 0);
        b.due("the eighth alone", x.firstMatch(one), 7);
        b.says(28, "NONE if it matches no pattern.");
        b.due("no row", x.firstMatch(x.term(2, leaf, leaf, 0)), -13);
        x.clearRows();
        x.addRow(0);
        x.addRow(leaf);
        b.due("a variable matches all", x.firstMatch(leaf), 0);
        b.due("a variable matches all", x.firstMatch(one), 0);
        Twins.State state = () -> {
            Counted y = States.worked();
            y.clearRows();
            y.addRow(States.PATTERN);
            return y;
        };
        b.refused("no match", state, y -> y.firstMatch(States.EMPTY_LIST), -13);
        b.unchanged("a match binds nothing", state, y -> y.firstMatch(States.LISTED), 0);
        b.unchanged("nor does it fail to", States::worked, y -> y.firstMatch(States.BOUND_LIST), 0);
    }

    private void currentBindings() {
        b.says("A pattern is read with the current bindings: it stands for the term of its node.");
        Counted x = Boundaries.treesWithVariables(2);
        int leaf = x.term(0, 0, 0, 0);
        int one = x.term(1, leaf, 0, 0);
        x.addRow(0);
        b.due("free", x.firstMatch(one), 0);
        b.due("free", x.uncovered(3), 0);
        x.push();
        x.unify(0, leaf);
        b.due("bound after it was added", x.firstMatch(one), -13);
        b.due("bound after it was added", x.firstMatch(leaf), 0);
        b.due("bound after it was added", x.uncovered(3), 2);
        b.due("bound after it was added", x.coveredBy(0, 1), 1);
        b.due("bound after it was added", x.firstUncovered(2), 20000);
        x.pop();
        b.due("free again", x.firstMatch(one), 0);
        b.due("free again", x.firstUncovered(2), -13);
        x.unify(0, 1);
        b.due("bound to a free variable", x.firstMatch(one), 0);
        x.unify(1, one);
        b.due("bound over two bindings", x.firstMatch(one), 0);
        b.due("bound over two bindings", x.firstMatch(leaf), -13);
        b.due("the node is bound too", x.firstMatch(1), 0);
        x.unbindAll();
        b.due("free after unbindAll", x.coveredBy(0, 3), 2);
    }

    private void sameValueAtAllPlaces() {
        b.says("A value matches a term if the free variables of the term can be replaced by values, each variable"
                + " by the same value at all its occurrences, so that the term becomes that value.");
        Counted x = Boundaries.treesWithVariables(2);
        int leaf = x.term(0, 0, 0, 0);
        int leaf2 = x.term(0, 0, 0, 0);
        int one = x.term(1, leaf, 0, 0);
        int one2 = x.term(1, leaf2, 0, 0);
        x.addRow(x.term(3, 0, 0, 0));
        b.due("all three the same", x.firstMatch(x.term(3, one, one2, one)), 0);
        b.due("another first", x.firstMatch(x.term(3, leaf, one2, one)), -13);
        b.due("another second", x.firstMatch(x.term(3, one, leaf, one)), -13);
        b.due("another third", x.firstMatch(x.term(3, one, one2, leaf)), -13);
        b.due("one of size 4", x.coveredBy(0, 4), 1);
        b.due("one of size 7", x.coveredBy(0, 7), 1);
        x.clearRows();
        x.addRow(x.term(2, 0, x.term(1, 0, 0, 0), 0));
        b.due("at two depths", x.firstMatch(x.term(2, leaf2, one, 0)), 0);
        b.due("not the same at two depths", x.firstMatch(x.term(2, one, one2, 0)), -13);
        x.unify(0, 1);
        x.clearRows();
        x.addRow(x.term(2, 0, 1, 0));
        b.due("two variables bound together", x.firstMatch(x.term(2, leaf, leaf2, 0)), 0);
        b.due("two variables bound together", x.firstMatch(x.term(2, leaf, one, 0)), -13);
        b.due("two variables bound together", x.uncovered(4), x.count(0, 4));
        x.unbindAll();
        b.due("two free variables", x.firstMatch(x.term(2, leaf, one, 0)), 0);
        b.due("a variable in two rows", x.addRow(x.term(2, 1, 0, 0)), 1);
        b.due("what it was in one row says nothing for another", x.firstMatch(x.term(2, one, leaf, 0)), 0);
    }

    private void uncovered() {
        b.says(29, "NO_ROWS if there are no rows (checked first);");
        for (int size : new int[] {MIN, -1, 0, 1, 8, 9, MAX}) {
            b.refused("no rows: uncovered(" + size + ")", Boundaries::trees, x -> x.uncovered(size), -11);
        }
        b.says(29, "OUT_OF_RANGE if size is out of range (checked second);");
        for (int size : new int[] {MIN, -1, 0, 9, 10, 12, MAX}) {
            b.refused("uncovered(" + size + ")", States::worked, x -> x.uncovered(size), -4);
            b.refused("before too large: uncovered(" + size + ")", () -> values(2001), x -> x.uncovered(size), -4);
        }
        b.says(29, "Returns the number of values of the subject type with a size that match no pattern.");
        b.says(29, "size: 1 to 8 Returns the number;");
        Counted x = Boundaries.treesWithVariables(1);
        x.addRow(x.term(1, 0, 0, 0));
        for (int size = 1; size <= 8; size++) {
            // What is not covered has another root.
            int below = size == 1 ? 0 : x.count(0, size - 1);
            b.due("uncovered(" + size + ")", x.uncovered(size), x.count(0, size) - below);
        }
        Counted all = Boundaries.treesWithVariables(1);
        all.addRow(0);
        Counted nothing = Boundaries.treesWithVariables(1);
        int deep = nothing.term(0, 0, 0, 0);
        for (int i = 0; i < 9; i++) {
            deep = nothing.term(1, deep, 0, 0);
        }
        nothing.addRow(deep);
        for (int size = 1; size <= 8; size++) {
            b.due("all are covered", all.uncovered(size), 0);
            b.due("nothing is covered", nothing.uncovered(size), nothing.count(0, size));
        }
        // Triples whose lists have the sizes 1 and 5, 3 and 3 or 5 and 1: (4 + 4 + 4) * 2.
        b.unchanged("it changes nothing", States::worked, y -> y.uncovered(8), 24);
    }

    private void firstUncovered() {
        b.says(30, "NO_ROWS if there are no rows (checked first);");
        for (int limit : new int[] {MIN, -1, 0, 1, 8, 9, MAX}) {
            b.refused("no rows: firstUncovered(" + limit + ")", Boundaries::trees,
                    x -> x.firstUncovered(limit), -11);
        }
        b.says(30, "OUT_OF_RANGE if limit is out of range (checked second);");
        for (int limit : new int[] {MIN, -1, 0, 9, 10, 12, MAX}) {
            b.refused("firstUncovered(" + limit + ")", States::worked, x -> x.firstUncovered(limit), -4);
            b.refused("before too large: firstUncovered(" + limit + ")", () -> values(2001),
                    x -> x.firstUncovered(limit), -4);
        }
        b.says(30, "Returns the first value, in the order of values, that matches no pattern,"
                + " as 10000 times its size plus its index.");
        b.says(30, "limit: greatest size that is considered, 1 to 8 Returns that number;");
        Counted x = Boundaries.treesWithVariables(1);
        int leaf = x.term(0, 0, 0, 0);
        x.addRow(x.term(1, 0, 0, 0));
        b.due("the first value of all", x.firstUncovered(1), 10000);
        b.due("the first value of all", x.firstUncovered(8), 10000);
        x.addRow(leaf);
        for (int limit = 1; limit <= 8; limit++) {
            b.due("2(0,0) has size 3 and index 1", x.firstUncovered(limit), limit < 3 ? -13 : 30001);
        }
        x.addRow(x.term(2, 0, leaf, 0));
        // Of size 4: 1(..) twice, 2(0,1(0)), 2(1(0),0), 3(0,0,0).
        b.due("a smaller size before a smaller constructor", x.firstUncovered(8), 40002);
        b.unchanged("it changes nothing", States::worked, y -> y.firstUncovered(8), 40000);
    }

    private void firstUncoveredNone() {
        b.says(30, "NONE if there is no such value with a size of at most limit.");
        // Only a chain of size 8 is not covered: 1(1(1(1(1(1(1(0))))))).
        Twins.State seven = () -> {
            Counted x = Boundaries.withTypes(1);
            x.addConstructor(0, 0, 0, 0, 0);
            x.addConstructor(0, 1, 0, 0, 0);
            int node = x.term(0, 0, 0, 0);
            x.addRow(node);
            for (int size = 2; size <= 7; size++) {
                node = x.term(1, node, 0, 0);
                x.addRow(node);
            }
            return x;
        };
        for (int limit = 1; limit <= 7; limit++) {
            int wanted = limit;
            b.refused("all are covered up to " + limit, seven, x -> x.firstUncovered(wanted), -13);
        }
        b.unchanged("the one of size 8", seven, x -> x.firstUncovered(8), 80000);
        Counted eight = seven.make();
        eight.addRow(eight.term(1, eight.nodeCount() - 1, 0, 0));
        b.due("it is covered by the eighth row", eight.firstUncovered(8), -13);
        b.due("size 8", eight.uncovered(8), 0);
        b.due("by the eighth row", eight.coveredBy(7, 8), 1);
    }

    private void coveredBy() {
        b.says(31, "NO_ROWS if there are no rows (checked first);");
        for (int row : new int[] {MIN, -1, 0, 8, MAX}) {
            for (int size : new int[] {MIN, 0, 1, 8, 9, MAX}) {
                b.refused("no rows: coveredBy(" + row + ", " + size + ")", Boundaries::trees,
                        x -> x.coveredBy(row, size), -11);
            }
        }
        b.says(31, "OUT_OF_RANGE if there is no such row or size is out of range (checked second);");
        for (int size : new int[] {1, 8}) {
            for (int row : new int[] {MIN, -1, 3, 4, 7, 8, MAX}) {
                b.refused("coveredBy(" + row + ", " + size + ")", States::worked, x -> x.coveredBy(row, size), -4);
            }
            for (int row : new int[] {MIN, -1, 8, MAX}) {
                b.refused("coveredBy(" + row + ", " + size + ")", States::full, x -> x.coveredBy(row, size), -4);
            }
        }
        for (int size : new int[] {MIN, -1, 0, 9, MAX}) {
            for (int row : new int[] {-1, 0, 2, 3}) {
                b.refused("coveredBy(" + row + ", " + size + ")", States::worked, x -> x.coveredBy(row, size), -4);
            }
            b.refused("size before too large", () -> values(2001), x -> x.coveredBy(0, size), -4);
        }
        b.refused("row before too large", () -> values(2001), x -> x.coveredBy(1, 8), -4);
        b.refused("row before too large", () -> values(2001), x -> x.coveredBy(-1, 8), -4);
        b.says(31, "Returns the number of values of the subject type with a size whose first match is a row.");
        b.says(31, "size: 1 to 8 Returns the number;");
        Counted x = Boundaries.treesWithVariables(1);
        int leaf = x.term(0, 0, 0, 0);
        x.addRow(x.term(1, 0, 0, 0));
        x.addRow(leaf);
        x.addRow(0);
        x.addRow(leaf);
        for (int size = 1; size <= 8; size++) {
            int count = x.count(0, size);
            int first = size == 1 ? 0 : x.count(0, size - 1);
            int second = size == 1 ? 1 : 0;
            b.due("row 0, size " + size, x.coveredBy(0, size), first);
            b.due("row 1, size " + size, x.coveredBy(1, size), second);
            b.due("row 2, size " + size, x.coveredBy(2, size), count - first - second);
            b.due("a later row has no first match", x.coveredBy(3, size), 0);
        }
        b.unchanged("it changes nothing", States::worked, y -> y.coveredBy(2, 1), 0);
    }

    /**
     * Type 3 has so many values of size 8, from 1999 to 2001. Row 0 covers the 1999 of constructor 8;
     * each other has a constructor of its own.
     */
    private static Counted values(int total) {
        Counted x = Boundaries.withTypes(4);
        // Type 0 has 1999 values of size 7.
        x.addConstructor(0, 0, 0, 0, 0);
        x.addConstructor(0, 1, 0, 0, 0);
        x.addConstructor(0, 1, 0, 0, 0);
        for (int i = 0; i < 3; i++) {
            x.addConstructor(0, 2, 0, 0, 0);
        }
        // Type 1 has one value, of size 1; type 2 one, of size 3.
        x.addConstructor(1, 0, 0, 0, 0);
        x.addConstructor(2, 2, 1, 1, 0);
        x.addConstructor(3, 1, 0, 0, 0);
        for (int i = 1999; i < total; i++) {
            x.addConstructor(3, 3, 2, 2, 1);
        }
        x.variable(0);
        x.addRow(x.term(8, 0, 0, 0));
        return x;
    }

    private void manyValues() {
        b.says(29, "TOO_LARGE if the subject type has more than 2000 values of that size.");
        b.says(30, "TOO_LARGE if the subject type has more than 2000 values of some size from 1 to limit"
                + " (checked third);");
        b.says(31, "TOO_LARGE as in uncovered.");
        for (int total = 1999; total <= 2000; total++) {
            Counted x = values(total);
            b.due("count", x.count(3, 8), total);
            b.due("uncovered of " + total, x.uncovered(8), total - 1999);
            b.due("coveredBy of " + total, x.coveredBy(0, 8), 1999);
            b.due("firstUncovered of " + total, x.firstUncovered(8), total == 1999 ? -13 : 81999);
        }
        Counted x = values(2001);
        b.due("count", x.count(3, 8), 2001);
        b.refused("uncovered of 2001", () -> values(2001), y -> y.uncovered(8), -10);
        b.refused("coveredBy of 2001", () -> values(2001), y -> y.coveredBy(0, 8), -10);
        b.refused("firstUncovered of 2001", () -> values(2001), y -> y.firstUncovered(8), -10);
        b.due("a smaller size is not too large", x.uncovered(7), 0);
        b.due("a smaller size is not too large", x.coveredBy(0, 7), x.count(3, 7));
        b.due("a smaller limit is not too large", x.firstUncovered(7), -13);
        // The subject type decides, not another one.
        x.clearRows();
        x.addRow(0);
        b.due("another subject type", x.uncovered(8), -10);
        b.due("another subject type", x.coveredBy(0, 7), 1999);
        x.clearRows();
        x.addRow(x.term(6, 0, 0, 0));
        b.due("a subject type with one value", x.uncovered(8), 0);
        b.due("a subject type with one value", x.firstUncovered(8), -13);
        Counted first = values(2001);
        first.clearRows();
        int three = first.value(2, 3, 0);
        int one = first.value(1, 1, 0);
        b.due("a row for one value of size 8", first.addRow(first.term(9, three, three, one)), 0);
        b.due("a value of size 2 is not covered", first.firstUncovered(7), 20000);
        b.due("too large comes before it", first.firstUncovered(8), -10);
    }

    private void manyValuesOfSmallerSize() {
        // 9 leaves and pairs: 9, 81, 1458 and 32805 values of the sizes 1, 3, 5 and 7, none of even sizes.
        Twins.State state = () -> {
            Counted x = Boundaries.withTypes(1);
            for (int i = 0; i < 9; i++) {
                x.addConstructor(0, 0, 0, 0, 0);
            }
            x.addConstructor(0, 2, 0, 0, 0);
            x.variable(0);
            x.addRow(x.term(9, 0, 0, 0));
            return x;
        };
        for (int limit = 1; limit <= 6; limit++) {
            b.due("limit " + limit, state.make().firstUncovered(limit), 10000);
        }
        b.refused("too many of size 7, though size 1 has one", state, x -> x.firstUncovered(7), -10);
        b.refused("too many of size 7 below the limit", state, x -> x.firstUncovered(8), -10);
        b.due("none of size 8", state.make().uncovered(8), 0);
        b.due("none of size 8", state.make().coveredBy(0, 8), 0);
        b.refused("too many of size 7", state, x -> x.uncovered(7), -10);
        b.due("all but the equal pairs of size 3", state.make().uncovered(3), 72);
    }

    private void noValues() {
        Counted x = Boundaries.withTypes(2);
        x.addConstructor(0, 1, 0, 0, 0);
        x.variable(0);
        x.addRow(0);
        x.addRow(x.term(0, 0, 0, 0));
        for (int size = 1; size <= 8; size++) {
            b.due("no values: uncovered(" + size + ")", x.uncovered(size), 0);
            b.due("no values: coveredBy(0, " + size + ")", x.coveredBy(0, size), 0);
            b.due("no values: firstUncovered(" + size + ")", x.firstUncovered(size), -13);
        }
        x.addConstructor(0, 0, 0, 0, 0);
        b.due("a way out: all are covered", x.uncovered(8), 0);
        b.due("a way out: one of size 8", x.coveredBy(0, 8), 1);
        x.clearRows();
        x.addRow(1);
        b.due("a way out: the leaf is not covered", x.firstUncovered(8), 10000);
    }
}
