/** Promises 21 to 25: unification, and saving and restoring of bindings. */
public final class UnificationTest {
    private static final Checks checks = new Checks("UnificationTest");

    public static void main(String[] args) {
        promise21Errors();
        promise21Variables();
        promise21VariableAndTerm();
        promise21OccursCheck();
        promise21OrderOfChildren();
        promise21FirstFailureDecides();
        promise21SharedNodes();
        promise21DeepTerms();
        promises22And23BoundCountAndUnbindAll();
        promises24And25PushAndPop();
        checks.end();
    }

    private static void promise21Errors() {
        DatatypeTerms x = trees();
        x.addType();
        x.variable(0);
        x.variable(1);
        checks.due("unify(0, 2)", x.unify(0, 2), -3);
        checks.due("unify(2, 0)", x.unify(2, 0), -3);
        checks.due("unify(-1, 0)", x.unify(-1, 0), -3);
        checks.due("unify(0, 1) of two types", x.unify(0, 1), -5);
        checks.due("no node before wrong type", x.unify(1, 9), -3);
        checks.due("nothing bound", x.boundCount(), 0);
    }

    private static void promise21Variables() {
        DatatypeTerms x = trees();
        for (int i = 0; i < 5; i++) {
            x.variable(0);
        }
        checks.due("unify(0, 0)", x.unify(0, 0), 1);
        checks.due("a variable with itself binds nothing", x.boundCount(), 0);
        checks.due("unify(1, 3)", x.unify(1, 3), 1);
        checks.due("the greater is bound", x.binding(3), 1);
        checks.due("the smaller is free", x.binding(1), -13);
        checks.due("unify(4, 3)", x.unify(4, 3), 1);
        checks.due("bound to the resolved one", x.binding(4), 1);
        checks.due("unify(3, 0)", x.unify(3, 0), 1);
        checks.due("the resolved one is bound", x.binding(1), 0);
        checks.due("the other binding stays", x.binding(3), 1);
        checks.due("unify(4, 1)", x.unify(4, 1), 1);
        checks.due("they were the same", x.boundCount(), 3);
    }

    private static void promise21VariableAndTerm() {
        DatatypeTerms x = trees();
        x.variable(0);
        x.variable(0);
        x.term(0, 0, 0, 0);
        checks.due("unify(2, 0)", x.unify(2, 0), 1);
        checks.due("a variable is bound to a greater node", x.binding(0), 2);
        checks.due("unify(1, 0)", x.unify(1, 0), 1);
        checks.due("bound to the resolved node", x.binding(1), 2);
        x.term(1, 0, 0, 0);
        checks.due("clash through bindings", x.unify(1, 3), -7);
        checks.due("clash the other way", x.unify(3, 1), -7);
    }

    private static void promise21OccursCheck() {
        DatatypeTerms x = trees();
        x.variable(0);
        x.term(1, 0, 0, 0);
        x.variable(0);
        x.term(1, 2, 0, 0);
        checks.due("0 in 1(0)", x.unify(0, 1), -8);
        checks.due("unify(2, 1)", x.unify(2, 1), 1);
        checks.due("0 in 1(1(0)) by a binding", x.unify(3, 0), -8);
        checks.due("0 in its own term by a binding", x.unify(0, 2), -8);
        checks.due("the earlier binding stays", x.boundCount(), 1);
        checks.due("binding(2)", x.binding(2), 1);
    }

    private static void promise21OrderOfChildren() {
        DatatypeTerms x = trees();
        x.addConstructor(0, 3, 0, 0, 0);
        for (int i = 0; i < 4; i++) {
            x.variable(0);
        }
        // 3(v3, v3, v2) with 3(v2, v1, v0): 3 to 2, then 2 to 1, then 1 to 0.
        x.term(3, 3, 3, 2);
        x.term(3, 2, 1, 0);
        checks.due("unify(4, 5)", x.unify(4, 5), 1);
        checks.due("binding(3)", x.binding(3), 2);
        checks.due("binding(2)", x.binding(2), 1);
        checks.due("binding(1)", x.binding(1), 0);
        checks.due("binding(0)", x.binding(0), -13);
        x.unbindAll();
        // First children completely: 2(v0, v1) with 2(v1, leaf) before v0 with v2.
        int leaf = x.term(0, 0, 0, 0);
        int left = x.term(2, x.term(2, 0, 1, 0), 0, 0);
        int right = x.term(2, x.term(2, 1, leaf, 0), 2, 0);
        checks.due("unify nested", x.unify(left, right), 1);
        checks.due("binding(1)", x.binding(1), 0);
        checks.due("binding(0)", x.binding(0), leaf);
        checks.due("binding(2)", x.binding(2), leaf);
    }

    private static void promise21FirstFailureDecides() {
        DatatypeTerms x = trees();
        int v = x.variable(0);
        int w = x.variable(0);
        int leaf = x.term(0, 0, 0, 0);
        int one = x.term(1, v, 0, 0);
        int clashThenCycle = x.term(2, leaf, v, 0);
        int cycleThenClash = x.term(2, v, leaf, 0);
        int ones = x.term(2, one, one, 0);
        checks.due("clash first", x.unify(clashThenCycle, ones), -7);
        checks.due("cycle first", x.unify(cycleThenClash, ones), -8);
        int bindThenClash = x.term(2, w, leaf, 0);
        checks.due("binds, then clashes", x.unify(bindThenClash, ones), -7);
        checks.due("the binding is undone", x.binding(w), -13);
        checks.due("boundCount()", x.boundCount(), 0);
        x.unify(w, leaf);
        int twice = x.term(2, v, v, 0);
        int other = x.term(2, w, one, 0);
        checks.due("binds v to a leaf, then clashes", x.unify(twice, other), -7);
        checks.due("the earlier binding stays", x.binding(w), leaf);
        checks.due("v is free again", x.binding(v), -13);
    }

    private static void promise21SharedNodes() {
        DatatypeTerms x = trees();
        x.variable(0);
        x.variable(0);
        for (int node = 2; node < 98; node += 2) {
            x.term(2, node - 2, node - 2, 0);
            x.term(2, node - 1, node - 1, 0);
        }
        checks.due("two huge terms", x.unify(96, 97), 1);
        checks.due("binding(1)", x.binding(1), 0);
        checks.due("equal now", x.equal(96, 97), 1);
        checks.due("huge clash or cycle", x.unify(94, 97), -8);
        int leaf = x.term(0, 0, 0, 0);
        x.unify(0, leaf);
        checks.due("huge clash", x.unify(94, 97), -7);
        checks.due("boundCount()", x.boundCount(), 2);
        clashBehindHugeTerms();
    }

    private static void clashBehindHugeTerms() {
        DatatypeTerms x = trees();
        int left = x.variable(0);
        int right = x.variable(0);
        for (int i = 0; i < 45; i++) {
            left = x.term(2, left, left, 0);
            right = x.term(2, right, right, 0);
        }
        int leaf = x.term(0, 0, 0, 0);
        int one = x.term(1, leaf, 0, 0);
        checks.due("clash behind", x.unify(x.term(2, left, leaf, 0), x.term(2, right, one, 0)), -7);
        checks.due("boundCount()", x.boundCount(), 0);
        checks.due("no clash", x.unify(x.term(2, left, leaf, 0), x.term(2, right, leaf, 0)), 1);
        checks.due("boundCount()", x.boundCount(), 1);
    }

    private static void promise21DeepTerms() {
        DatatypeTerms x = trees();
        x.variable(0);
        for (int node = 1; node < 50; node++) {
            x.term(1, node - 1, 0, 0);
        }
        x.variable(0);
        for (int node = 51; node < 100; node++) {
            x.term(1, node - 1, 0, 0);
        }
        checks.due("unify(49, 99)", x.unify(49, 99), 1);
        checks.due("binding(50)", x.binding(50), 0);
        x.unbindAll();
        checks.due("unify(49, 50)", x.unify(49, 50), 1);
        checks.due("cycle over 98 levels", x.unify(99, 0), -8);
        checks.due("size(99)", x.size(99), -9);
    }

    private static void promises22And23BoundCountAndUnbindAll() {
        DatatypeTerms x = trees();
        checks.due("unbindAll() of none", x.unbindAll(), 0);
        for (int i = 0; i < 4; i++) {
            x.variable(0);
        }
        x.unify(0, 1);
        x.unify(2, 3);
        checks.due("boundCount()", x.boundCount(), 2);
        x.unify(1, 3);
        checks.due("boundCount()", x.boundCount(), 3);
        checks.due("push()", x.push(), 1);
        checks.due("unbindAll()", x.unbindAll(), 3);
        checks.due("boundCount()", x.boundCount(), 0);
        checks.due("binding(1)", x.binding(1), -13);
        checks.due("saved bindings stay", x.pop(), 0);
        checks.due("boundCount()", x.boundCount(), 3);
    }

    private static void promises24And25PushAndPop() {
        DatatypeTerms x = trees();
        checks.due("pop() of none", x.pop(), -12);
        for (int i = 0; i < 9; i++) {
            x.variable(0);
        }
        for (int i = 0; i < 8; i++) {
            checks.due("push()", x.push(), i + 1);
            checks.due("unify", x.unify(i, i + 1), 1);
        }
        checks.due("ninth push()", x.push(), -6);
        checks.due("boundCount()", x.boundCount(), 8);
        int late = x.variable(0);
        x.unify(late, 0);
        checks.due("late is bound", x.binding(late), 0);
        for (int i = 7; i >= 0; i--) {
            checks.due("pop()", x.pop(), i);
            checks.due("boundCount()", x.boundCount(), i);
            checks.due("variables created later are free", x.binding(late), -13);
        }
        checks.due("pop() of none", x.pop(), -12);
        int leaf = x.term(0, 0, 0, 0);
        x.unify(0, leaf);
        x.push();
        x.unbindAll();
        x.unify(0, 1);
        x.unify(2, leaf);
        checks.due("pop()", x.pop(), 0);
        checks.due("bound as it was", x.binding(0), leaf);
        checks.due("others are free", x.boundCount(), 1);
    }

    /** One type with the constructors 0 of arity 0, 1 of arity 1, and 2 of arity 2. */
    private static DatatypeTerms trees() {
        DatatypeTerms x = new DatatypeTerms();
        x.addType();
        x.addConstructor(0, 0, 0, 0, 0);
        x.addConstructor(0, 1, 0, 0, 0);
        x.addConstructor(0, 2, 0, 0, 0);
        return x;
    }
}
