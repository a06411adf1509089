import java.util.ArrayList;
import java.util.HashMap;
import java.util.List;
import java.util.Map;

/**
 * Looks whether a call changes nothing: of two objects in the same state one gets the call, and then
 * both are asked for all that the public face tells. That takes more calls than one object has, and
 * some of them empty the object, so each kind of question gets two objects of its own.
 */
final class Twins {
    /** Makes an object in a state, the same one each time. */
    interface State {
        Counted make();
    }

    /** A call of one method. */
    interface Call {
        int on(Counted x);
    }

    private interface Look {
        void at(Counted x, List<Integer> seen);
    }

    private static final Look[] LOOKS = {
        Twins::signature, Twins::nodes, Twins::children, Twins::bindings, Twins::terms,
        Twins::savedBindings, Twins::rows, Twins::roomForRows, Twins::laterUnification, Twins::laterNodes
    };

    private final Checks checks;
    private final Map<State, List<List<Integer>>> untouched = new HashMap<>();

    Twins(Checks checks) {
        this.checks = checks;
    }

    /** The call answers the error that is wanted, and changes nothing. */
    void refused(String what, State state, Call call, int want) {
        checks.holds(what + ": " + want + " is an error code", want <= -1 && want >= -13);
        unchanged(what, state, call, want);
    }

    /** The call answers what is wanted, and changes nothing. */
    void unchanged(String what, State state, Call call, int want) {
        List<List<Integer>> before = untouched.computeIfAbsent(state, Twins::lookAtAll);
        for (int look = 0; look < LOOKS.length; look++) {
            Counted x = state.make();
            int got = call.on(x);
            if (look == 0 || got != want) {
                checks.due(what, got, want);
            }
            List<Integer> seen = new ArrayList<>();
            LOOKS[look].at(x, seen);
            checks.holds(what + " changes nothing that look " + look + " sees", seen.equals(before.get(look)));
        }
    }

    private static List<List<Integer>> lookAtAll(State state) {
        List<List<Integer>> all = new ArrayList<>();
        for (Look look : LOOKS) {
            List<Integer> seen = new ArrayList<>();
            look.at(state.make(), seen);
            all.add(seen);
        }
        return all;
    }

    private static void signature(Counted x, List<Integer> seen) {
        for (int type = 0; type <= 4; type++) {
            seen.add(x.cardinality(type));
            seen.add(x.smallestSize(type));
            for (int size = 1; size <= 12; size++) {
                seen.add(x.count(type, size));
            }
        }
        for (int constructor = 0; constructor <= 12; constructor++) {
            seen.add(x.resultType(constructor));
            seen.add(x.arity(constructor));
            for (int k = 0; k < 3; k++) {
                seen.add(x.argumentType(constructor, k));
            }
        }
        for (int i = 0; i < 5; i++) {
            seen.add(x.addType());
        }
        for (int i = 0; i < 13; i++) {
            seen.add(x.addConstructor(3, 0, 0, 0, 0));
        }
    }

    private static void nodes(Counted x, List<Integer> seen) {
        int total = x.nodeCount();
        seen.add(total);
        for (int node = 0; node <= total; node++) {
            seen.add(x.nodeType(node));
            seen.add(x.head(node));
        }
        seen.add(x.variable(0));
        seen.add(x.binding(total));
    }

    private static void children(Counted x, List<Integer> seen) {
        int total = x.nodeCount();
        for (int node = 0; node < total; node++) {
            for (int k = 0; k < 3; k++) {
                seen.add(x.child(node, k));
            }
        }
    }

    private static void bindings(Counted x, List<Integer> seen) {
        int total = x.nodeCount();
        seen.add(x.boundCount());
        for (int node = 0; node < total; node++) {
            seen.add(x.binding(node));
        }
        seen.add(x.unbindAll());
        seen.add(x.boundCount());
    }

    private static void terms(Counted x, List<Integer> seen) {
        int total = x.nodeCount();
        for (int node = 0; node < total; node++) {
            seen.add(x.size(node));
            seen.add(x.rank(node));
            seen.add(x.equal(node, (node * 7 + 3) % total));
        }
    }

    private static void savedBindings(Counted x, List<Integer> seen) {
        int total = Math.min(30, x.nodeCount());
        for (int i = 0; i < 9; i++) {
            seen.add(x.pop());
            seen.add(x.boundCount());
            for (int node = 0; node < total; node++) {
                seen.add(x.binding(node));
            }
        }
    }

    private static void rows(Counted x, List<Integer> seen) {
        int total = x.nodeCount();
        for (int node = 0; node < total; node++) {
            seen.add(x.firstMatch(node));
        }
        for (int size = 1; size <= 6; size++) {
            seen.add(x.uncovered(size));
            for (int row = 0; row <= 8; row++) {
                seen.add(x.coveredBy(row, size));
            }
        }
        seen.add(x.firstUncovered(6));
    }

    private static void roomForRows(Counted x, List<Integer> seen) {
        int total = x.nodeCount();
        for (int node = 0; node < total; node++) {
            seen.add(x.addRow(node));
        }
        seen.add(x.clearRows());
        seen.add(x.push());
    }

    private static void laterUnification(Counted x, List<Integer> seen) {
        int total = x.nodeCount();
        for (int node = 1; node < total; node++) {
            seen.add(x.unify(node, node - 1));
        }
        for (int node = 0; node < total; node++) {
            seen.add(x.binding(node));
        }
    }

    private static void laterNodes(Counted x, List<Integer> seen) {
        int total = x.nodeCount();
        for (int type = 0; type < 4; type++) {
            seen.add(x.value(type, 3, 0));
            seen.add(x.variable(type));
        }
        for (int constructor = 0; constructor < 12; constructor++) {
            seen.add(x.term(constructor, 0, 0, 0));
        }
        int later = x.nodeCount();
        for (int node = total; node < later; node++) {
            seen.add(x.head(node));
            seen.add(x.child(node, 0));
            seen.add(x.child(node, 1));
            seen.add(x.binding(node));
        }
    }
}
