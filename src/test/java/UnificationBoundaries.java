/** The boundary cases of the section UNIFICATION and of the promises 21 to 25. */
final class UnificationBoundaries {
    private static final int MIN = Integer.MIN_VALUE;
    private static final int MAX = Integer.MAX_VALUE;
    private final Boundaries b;

    UnificationBoundaries(Boundaries b) {
        this.b = b;
    }

    void run() {
        unifyNodes();
        unifyTypes();
        sameNode();
        twoVariables();
        variableAndTerm();
        occursCheck();
        constructors();
        orderOfChildren();
        firstFailure();
        failureIsUndone();
        unifyAgain();
        neighbours();
        unifyAfterFailure();
        greatTerms();
        clashBehindGreatTerms();
        boundCount();
        unbindAll();
        push();
        pop();
        popRestores();
    }

    private void unifyNodes() {
        b.says(21, "NO_SUCH_NODE if either node does not exist (checked first);");
        for (int missing : new int[] {MIN, -1, States.WORKED_NODES, States.WORKED_NODES + 1, MAX}) {
            for (int there : new int[] {States.FREE_FLAG, States.FREE_LIST, States.VOID, States.WORKED_NODES - 1}) {
                b.refused("unify(" + missing + ", " + there + ")", States::worked, x -> x.unify(missing, there), -3);
                b.refused("unify(" + there + ", " + missing + ")", States::worked, x -> x.unify(there, missing), -3);
            }
            b.refused("unify(" + missing + ", " + missing + ")", States::worked, x -> x.unify(missing, missing), -3);
        }
        b.refused("the 101st node", States::full, x -> x.unify(100, 99), -3);
        b.due("the 100th and the 98th node", States.full().unify(99, 97), 1);
    }

    private void unifyTypes() {
        b.says(21, "WRONG_TYPE if their types differ (checked second);");
        int[] flags = {States.FREE_FLAG, States.BOUND_FLAG, States.FLAG};
        int[] lists = {States.FREE_LIST, States.BOUND_LIST, States.LISTED, States.PATTERN};
        for (int flag : flags) {
            for (int list : lists) {
                b.refused("unify(" + flag + ", " + list + ")", States::worked, x -> x.unify(flag, list), -5);
                b.refused("unify(" + list + ", " + flag + ")", States::worked, x -> x.unify(list, flag), -5);
            }
        }
        b.refused("a type without values", States::worked, x -> x.unify(States.VOID, States.FREE_FLAG), -5);
        b.due("of one type", States.worked().unify(States.FREE_FLAG, States.BOUND_FLAG), 1);
    }

    private void sameNode() {
        b.says(21, "Unifies two nodes; returns 1 if that succeeds;");
        b.says("To unify two nodes means to do the following steps.");
        b.says("Resolve both nodes. If the results are the same node, the step is finished.");
        b.unchanged("a free variable with itself", States::worked,
                x -> x.unify(States.FREE_LIST, States.FREE_LIST), 1);
        b.unchanged("a constructor node with itself", States::worked,
                x -> x.unify(States.PATTERN, States.PATTERN), 1);
        b.unchanged("a bound variable with its node", States::worked,
                x -> x.unify(States.BOUND_LIST, States.LISTED), 1);
        b.unchanged("a node with the variable bound to it", States::worked,
                x -> x.unify(States.LISTED, States.BOUND_LIST), 1);
        b.unchanged("two variables bound to one node", States::worked,
                x -> x.unify(States.BOUND_LIST, 7), 1);
        b.unchanged("equal terms of two nodes", States::worked,
                x -> x.unify(States.LISTED, States.CLASHES), 1);
    }

    private void twoVariables() {
        b.says("If both are free variables, the one with the greater number is bound to the other one.");
        for (int round = 0; round < 2; round++) {
            Counted x = Boundaries.treesWithVariables(100);
            b.due("neighbours", round == 0 ? x.unify(0, 1) : x.unify(1, 0), 1);
            b.due("1 is bound to 0", x.binding(1), 0);
            b.due("0 is free", x.binding(0), -13);
            b.due("the first and the last", round == 0 ? x.unify(0, 99) : x.unify(99, 0), 1);
            b.due("99 is bound to 0", x.binding(99), 0);
            b.due("both sides bound", round == 0 ? x.unify(98, 97) : x.unify(97, 98), 1);
            b.due("98 is bound to 97", x.binding(98), 97);
            b.due("98 and 99, each bound", round == 0 ? x.unify(98, 99) : x.unify(99, 98), 1);
            b.due("97 is bound to 0", x.binding(97), 0);
            b.due("98 stays bound to 97", x.binding(98), 97);
            b.due("99 stays bound to 0", x.binding(99), 0);
            b.due("4 bound", x.boundCount(), 4);
        }
    }

    private void variableAndTerm() {
        b.says("If exactly one is a free variable:");
        b.says("otherwise it is bound to the other (resolved) node.");
        for (int round = 0; round < 2; round++) {
            Counted x = Boundaries.treesWithVariables(2);
            int leaf = x.term(0, 0, 0, 0);
            int last = x.variable(0);
            b.due("with a greater node", round == 0 ? x.unify(0, leaf) : x.unify(leaf, 0), 1);
            b.due("bound to it", x.binding(0), leaf);
            b.due("with a smaller node", round == 0 ? x.unify(last, leaf) : x.unify(leaf, last), 1);
            b.due("bound to it", x.binding(last), leaf);
            b.due("with a bound variable", round == 0 ? x.unify(1, last) : x.unify(last, 1), 1);
            b.due("bound to the resolved node", x.binding(1), leaf);
            b.due("3 bound", x.boundCount(), 3);
        }
        b.says("A variable is free or bound to a node of the same type.");
        Counted lists = States.worked();
        lists.unify(States.PATTERN, States.LISTED);
        b.due("a flag to a flag", lists.nodeType(lists.binding(States.FREE_FLAG)), 0);
        b.due("a list to a list", lists.nodeType(lists.binding(States.FREE_LIST)), 1);
    }

    private void occursCheck() {
        b.says("if it occurs in the term of the other node, unification fails with CYCLE;");
        b.says("Bindings never lead to a term that contains itself, so every term is finite.");
        for (int place = 0; place < 3; place++) {
            int at = place;
            Twins.State state = () -> {
                Counted x = Boundaries.treesWithVariables(2);
                x.term(3, at == 0 ? 0 : 1, at == 1 ? 0 : 1, at == 2 ? 0 : 1);
                return x;
            };
            b.refused("as child " + place, state, x -> x.unify(0, 2), -8);
            b.refused("as child " + place + ", the other way", state, x -> x.unify(2, 0), -8);
        }
        Twins.State byBindings = () -> {
            Counted x = Boundaries.treesWithVariables(3);
            x.term(1, 0, 0, 0);
            x.term(1, 1, 0, 0);
            x.term(1, 2, 0, 0);
            x.unify(1, 3);
            x.unify(2, 4);
            return x;
        };
        b.refused("0 in 1(2(..)) by two bindings", byBindings, x -> x.unify(0, 5), -8);
        b.refused("0 in the term of a bound variable", byBindings, x -> x.unify(0, 2), -8);
        b.refused("the other way", byBindings, x -> x.unify(2, 0), -8);
        Twins.State deep = () -> {
            Counted x = Boundaries.treesWithVariables(1);
            for (int node = 1; node < 100; node++) {
                x.term(1, node - 1, 0, 0);
            }
            return x;
        };
        b.refused("99 levels below", deep, x -> x.unify(0, 99), -8);
        b.refused("one level below", deep, x -> x.unify(1, 0), -8);
        b.refused("98 levels of both, then one below", deep, x -> x.unify(99, 98), -8);
        Counted twice = Boundaries.treesWithVariables(2);
        twice.term(2, 1, 1, 0);
        b.due("occurs twice elsewhere is no cycle", twice.unify(0, 2), 1);
    }

    private void constructors() {
        b.says("If both are constructor nodes: if their constructors differ, unification fails with CLASH;");
        b.says(21, "CLASH or CYCLE if unification fails.");
        Twins.State state = () -> {
            Counted x = Boundaries.treesWithVariables(2);
            x.addConstructor(0, 0, 0, 0, 0);
            x.addConstructor(0, 1, 0, 0, 0);
            for (int constructor = 0; constructor < 6; constructor++) {
                x.term(constructor, 0, 0, 0);
            }
            return x;
        };
        for (int one = 0; one < 6; one++) {
            for (int other = 0; other < 6; other++) {
                int left = 2 + one;
                int right = 2 + other;
                if (one != other) {
                    b.refused("unify(" + left + ", " + right + ")", state, x -> x.unify(left, right), -7);
                }
            }
        }
        Twins.State below = () -> {
            Counted x = state.make();
            x.term(3, 2, 2, 2);
            x.term(3, 2, 2, 6);
            return x;
        };
        b.refused("below, of the same arity", below, x -> x.unify(8, 9), -7);
        b.due("the same constructors below", below.make().unify(8, 8), 1);
    }

    private void orderOfChildren() {
        b.says("otherwise their children are unified, the first children completely, then the second ones,"
                + " then the third ones.");
        // 3(v3,v2,v1) with 3(v2,v1,v0): 3 to 2, then 2 to 1, then 1 to 0; from right to left 3, 2 and 1 go to 0.
        Counted x = Boundaries.treesWithVariables(4);
        x.term(3, 3, 3, 3);
        x.term(3, 2, 1, 0);
        b.due("unify(4, 5)", x.unify(4, 5), 1);
        b.due("one after the other", new int[] {x.binding(3), x.binding(2), x.binding(1), x.binding(0)},
                2, 1, 0, -13);
        // The first children completely: v3 gets v2 deep in the first child before the second gives it v0.
        Counted deep = Boundaries.treesWithVariables(4);
        int left = deep.term(3, deep.term(3, 1, 3, 1), 3, 3);
        int right = deep.term(3, deep.term(3, 1, 2, 1), 0, 1);
        b.due("nested", deep.unify(left, right), 1);
        b.due("the nested one first", deep.binding(3), 2);
        b.due("then the second", deep.binding(2), 0);
        b.due("then the third", deep.binding(1), 0);
        b.due("the smallest is free", deep.binding(0), -13);
        // The second children completely before the third ones.
        Counted second = Boundaries.treesWithVariables(4);
        left = second.term(3, 0, second.term(1, second.term(1, 3, 0, 0), 0, 0), 3);
        right = second.term(3, 0, second.term(1, second.term(1, 2, 0, 0), 0, 0), 1);
        b.due("nested in the second", second.unify(left, right), 1);
        b.due("the nested one first", second.binding(3), 2);
        b.due("then the third", second.binding(2), 1);
    }

    private void firstFailure() {
        b.says("The first failure decides.");
        // Nodes: variables 0 and 1, leaf 2, 1(v0) 3, 1(leaf) 4. A clash: leaf and 4. A cycle: v0 and 3.
        int[][] codes = {{-7, -8}, {-8, -7}};
        for (int[] order : codes) {
            for (int place = 0; place < 2; place++) {
                int first = place;
                Twins.State state = () -> {
                    Counted x = Boundaries.treesWithVariables(2);
                    x.term(0, 0, 0, 0);
                    x.term(1, 0, 0, 0);
                    x.term(1, 2, 0, 0);
                    int[] left = {2, 2, 2};
                    int[] right = {2, 2, 2};
                    for (int i = 0; i < 2; i++) {
                        left[first + i] = order[i] == -7 ? 2 : 0;
                        right[first + i] = order[i] == -7 ? 4 : 3;
                    }
                    x.term(3, left[0], left[1], left[2]);
                    x.term(3, right[0], right[1], right[2]);
                    return x;
                };
                b.refused("first " + order[0] + " at child " + place, state, x -> x.unify(5, 6), order[0]);
                b.refused("the other way", state, x -> x.unify(6, 5), order[0]);
            }
        }
        Twins.State nested = () -> {
            Counted x = Boundaries.treesWithVariables(2);
            x.term(0, 0, 0, 0);
            x.term(1, 0, 0, 0);
            x.term(1, x.term(1, x.term(1, 2, 0, 0), 0, 0), 0, 0);
            x.term(1, x.term(1, x.term(1, 3, 0, 0), 0, 0), 0, 0);
            x.term(2, 6, 0, 0);
            x.term(2, 9, 3, 0);
            return x;
        };
        b.refused("a deep clash in the first child before a cycle in the second", nested, x -> x.unify(10, 11), -7);
    }

    private void failureIsUndone() {
        b.says("If unification fails, all bindings made by it are undone.");
        // 3(v0,v1,leaf) with 3(leaf,v2,1(leaf)): two bindings, then a clash.
        Twins.State clash = () -> {
            Counted x = Boundaries.treesWithVariables(4);
            x.term(0, 0, 0, 0);
            x.term(1, 4, 0, 0);
            x.term(3, 0, 1, 4);
            x.term(3, 4, 2, 5);
            x.unify(3, 5);
            return x;
        };
        b.refused("two bindings, then a clash", clash, x -> x.unify(6, 7), -7);
        Counted x = clash.make();
        x.unify(6, 7);
        b.due("0 is free again", x.binding(0), -13);
        b.due("2 is free again", x.binding(2), -13);
        b.due("the earlier binding stays", x.binding(3), 5);
        b.due("one is bound", x.boundCount(), 1);
        Twins.State cycle = () -> {
            Counted y = Boundaries.treesWithVariables(4);
            y.term(0, 0, 0, 0);
            y.term(1, 2, 0, 0);
            y.term(3, 0, 1, 2);
            y.term(3, 4, 2, 5);
            y.unify(3, 4);
            return y;
        };
        b.refused("two bindings, then a cycle through them", cycle, y -> y.unify(6, 7), -8);
        Twins.State many = () -> {
            Counted y = Boundaries.treesWithVariables(60);
            int left = y.term(0, 0, 0, 0);
            int right = y.term(1, left, 0, 0);
            for (int i = 0; i < 19; i++) {
                left = y.term(2, i, left, 0);
                right = y.term(2, 59 - i, right, 0);
            }
            return y;
        };
        b.refused("19 bindings, then a clash at the end", many, y -> y.unify(98, 99), -7);
        b.due("19 bindings without the clash", many.make().unify(0, 59), 1);
    }

    private void unifyAgain() {
        Counted x = Boundaries.treesWithVariables(2);
        int leaf = x.term(0, 0, 0, 0);
        int left = x.term(2, 0, 1, 0);
        int right = x.term(2, leaf, leaf, 0);
        x.push();
        for (int round = 0; round < 3; round++) {
            b.due("unify", x.unify(left, right), 1);
            b.due("0 is bound", x.binding(0), leaf);
            b.due("1 is bound", x.binding(1), leaf);
            if (round == 0) {
                x.unbindAll();
            } else if (round == 1) {
                x.pop();
            }
            b.due("bound after round " + round, x.boundCount(), round == 2 ? 2 : 0);
        }
        x.unbindAll();
        x.unify(1, x.term(1, leaf, 0, 0));
        b.due("what succeeded before clashes now", x.unify(left, right), -7);
        x.unbindAll();
        b.due("what clashed before succeeds now", x.unify(left, right), 1);
    }

    /** What a failed unification left undone is not done by a later one. */
    private void unifyAfterFailure() {
        Counted x = Boundaries.treesWithVariables(6);
        int leaf = x.term(0, 0, 0, 0);
        int one = x.term(1, leaf, 0, 0);
        int left = x.term(3, leaf, 0, 1);
        int right = x.term(3, one, 2, 3);
        b.due("a clash with two pairs left", x.unify(left, right), -7);
        b.due("a later one", x.unify(4, 5), 1);
        b.due("binds its own variable", x.binding(5), 4);
        b.due("and no other", x.boundCount(), 1);
        int cycle = x.term(3, x.term(1, 0, 0, 0), 2, 3);
        b.due("a cycle with two pairs left", x.unify(x.term(3, 0, 1, 1), cycle), -8);
        b.due("a later one", x.unify(4, leaf), 1);
        b.due("binds its own variable", x.binding(4), leaf);
        b.due("and no other", x.boundCount(), 2);
    }

    /** Pairs of nodes that are near one another are different pairs. */
    private void neighbours() {
        int[][] pairs = {{5, 5, 6, 7}, {5, 6, 7, 7}, {5, 6, 8, 7}, {5, 7, 7, 5}, {7, 5, 5, 7}, {5, 5, 7, 6}};
        for (int[] pair : pairs) {
            Counted x = Boundaries.treesWithVariables(4);
            x.term(0, 0, 0, 0);
            for (int node = 5; node <= 8; node++) {
                x.term(1, node - 5, 0, 0);
            }
            int left = x.term(2, pair[0], pair[1], 0);
            int right = x.term(2, pair[2], pair[3], 0);
            b.due("unify", x.unify(left, right), 1);
            b.due("the first children", x.equal(pair[0], pair[2]), 1);
            b.due("the second children", x.equal(pair[1], pair[3]), 1);
        }
        Counted ends = Boundaries.trees();
        ends.term(0, 0, 0, 0);
        for (int node = 1; node < 99; node++) {
            ends.variable(0);
        }
        ends.term(0, 0, 0, 0);
        b.due("the first and the last node", ends.unify(0, 99), 1);
        b.due("the last and the first node", ends.unify(99, 0), 1);
        b.due("nothing is bound", ends.boundCount(), 0);
    }

    private void clashBehindGreatTerms() {
        // The clash comes after pairs of terms that have 2^44 nodes as trees.
        Twins.State state = () -> {
            Counted x = Boundaries.treesWithVariables(2);
            int left = 0;
            int right = 1;
            for (int i = 0; i < 44; i++) {
                left = x.term(2, left, left, 0);
                right = x.term(2, right, right, 0);
            }
            int leaf = x.term(0, 0, 0, 0);
            x.term(1, leaf, 0, 0);
            x.term(2, left, leaf, 0);
            x.term(2, right, leaf + 1, 0);
            return x;
        };
        b.refused("a clash behind", state, x -> x.unify(x.nodeCount() - 2, x.nodeCount() - 1), -7);
        b.refused("the other way", state, x -> x.unify(x.nodeCount() - 1, x.nodeCount() - 2), -7);
    }

    private void greatTerms() {
        // Each level leaves two pairs waiting while the first children are unified.
        Twins.State wide = () -> {
            Counted x = Boundaries.treesWithVariables(2);
            for (int node = 2; node < 100; node++) {
                x.term(3, node - 1, 0, 0);
            }
            return x;
        };
        b.refused("97 levels with pairs that wait", wide, x -> x.unify(99, 98), -8);
        Counted last = wide.make();
        b.due("a variable in place of the 98th level", last.unify(0, 99), -8);
        // As trees these have 3^48 nodes.
        Counted shared = Boundaries.treesWithVariables(2);
        int left = 0;
        int right = 1;
        for (int i = 0; i < 48; i++) {
            left = shared.term(3, left, left, left);
            right = shared.term(3, right, right, right);
        }
        b.due("terms with shared nodes", shared.unify(left, right), 1);
        b.due("1 is bound to 0", shared.binding(1), 0);
        b.due("nothing else is bound", shared.boundCount(), 1);
        b.due("again", shared.unify(right, left), 1);
        b.due("still one", shared.boundCount(), 1);
    }

    private void boundCount() {
        b.says(22, "Returns the number of bound variables.");
        Counted x = Boundaries.treesWithVariables(100);
        b.due("none", x.boundCount(), 0);
        for (int node = 99; node > 0; node--) {
            x.unify(node, node - 1);
            b.due("one more", x.boundCount(), 100 - node);
        }
        b.due("all but one, the most there can be among variables", x.boundCount(), 99);
        b.due("bound already", x.unify(99, 0), 1);
        b.due("still 99", x.boundCount(), 99);
    }

    private void unbindAll() {
        b.says(23, "Removes all bindings; returns how many there were.");
        Counted none = Boundaries.treesWithVariables(2);
        b.due("of none", none.unbindAll(), 0);
        none.unify(0, 1);
        b.due("of one", none.unbindAll(), 1);
        b.due("free", none.binding(1), -13);
        b.due("none left", none.unbindAll(), 0);
        Counted x = Boundaries.trees();
        x.term(0, 0, 0, 0);
        for (int node = 1; node < 100; node++) {
            x.variable(0);
            x.unify(node, 0);
        }
        b.due("of 99, the most there can be", x.unbindAll(), 99);
        b.due("none is left", x.boundCount(), 0);
        for (int node = 1; node < 100; node++) {
            b.due("free", x.binding(node), -13);
        }
        b.says(23, "Saved bindings stay.");
        Counted saved = States.full();
        b.due("of 11", saved.unbindAll(), 11);
        for (int left = 7; left >= 0; left--) {
            b.due("pop()", saved.pop(), left);
            b.due("as it was saved", saved.boundCount(), left);
        }
        b.unchanged("unbindAll of none", States::fresh, Counted::unbindAll, 0);
    }

    private void push() {
        b.says(24, "Saves all bindings on top of a stack; returns the number of saved states on it;");
        Counted x = Boundaries.treesWithVariables(10);
        for (int i = 0; i < 8; i++) {
            b.due("push()", x.push(), i + 1);
            b.due("bindings stay", x.boundCount(), i);
            x.unify(i, i + 1);
        }
        b.says(24, "FULL if there are 8.");
        b.due("the ninth", x.push(), -6);
        b.due("bindings stay", x.boundCount(), 8);
        b.due("pop()", x.pop(), 7);
        b.due("the eighth was the last", x.boundCount(), 7);
        b.due("there is room again", x.push(), 8);
        b.due("full again", x.push(), -6);
        Counted fresh = new Counted();
        for (int i = 0; i < 8; i++) {
            b.due("without nodes", fresh.push(), i + 1);
        }
        b.due("without nodes, the ninth", fresh.push(), -6);
        b.refused("the ninth", States::full, Counted::push, -6);
        b.unchanged("pop after push", States::worked, y -> {
            y.push();
            return y.pop();
        }, 2);
    }

    private void pop() {
        b.says(25, "Returns the number of saved states left; EMPTY if there is none.");
        Counted x = Boundaries.treesWithVariables(10);
        b.due("of none", x.pop(), -12);
        x.push();
        b.due("of one", x.pop(), 0);
        b.due("of none", x.pop(), -12);
        for (int i = 0; i < 8; i++) {
            x.push();
        }
        for (int left = 7; left >= 0; left--) {
            b.due("pop()", x.pop(), left);
        }
        b.due("of none", x.pop(), -12);
        b.refused("of a new object", States::fresh, Counted::pop, -12);
        Twins.State bound = () -> {
            Counted y = Boundaries.treesWithVariables(3);
            y.unify(0, 1);
            return y;
        };
        b.refused("bindings stay", bound, Counted::pop, -12);
    }

    private void popRestores() {
        b.says(25, "Takes the state that was saved last from the stack and restores its bindings:");
        b.says(25, "every variable that was bound then is bound as it was, every other variable,"
                + " also one created later, is free.");
        Counted x = Boundaries.treesWithVariables(5);
        int leaf = x.term(0, 0, 0, 0);
        x.unify(1, 0);
        x.push();
        x.unify(0, leaf);
        x.push();
        x.unbindAll();
        x.unify(1, 2);
        x.unify(3, 4);
        int late = x.variable(0);
        x.unify(late, leaf);
        b.due("pop()", x.pop(), 1);
        b.due("as it was: 0", x.binding(0), leaf);
        b.due("as it was: 1", x.binding(1), 0);
        b.due("2, bound since", x.binding(2), -13);
        b.due("4, bound since", x.binding(4), -13);
        b.due("created and bound since", x.binding(late), -13);
        b.due("two bound", x.boundCount(), 2);
        x.unify(late, 3);
        b.due("pop()", x.pop(), 0);
        b.due("0 is free", x.binding(0), -13);
        b.due("1 as it was", x.binding(1), 0);
        b.due("created later", x.binding(late), -13);
        b.due("one bound", x.boundCount(), 1);
        b.due("nodes stay", x.nodeCount(), 7);
        // The 100th node, created after a state was saved when there were none.
        Counted all = Boundaries.trees();
        all.push();
        all.term(0, 0, 0, 0);
        for (int node = 1; node < 100; node++) {
            all.variable(0);
            all.unify(node, 0);
        }
        b.due("99 bound", all.boundCount(), 99);
        b.due("pop()", all.pop(), 0);
        b.due("all free", all.boundCount(), 0);
        b.due("the 100th", all.binding(99), -13);
        Counted kept = Boundaries.trees();
        kept.term(0, 0, 0, 0);
        for (int node = 1; node < 100; node++) {
            kept.variable(0);
            kept.unify(node, 0);
        }
        kept.push();
        kept.unbindAll();
        b.due("pop()", kept.pop(), 0);
        b.due("99 bound again", kept.boundCount(), 99);
        b.due("the 100th", kept.binding(99), 0);
    }
}
