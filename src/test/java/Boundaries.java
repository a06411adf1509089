/** What the boundary tests share: the checks, the words of the document, and the twins. */
final class Boundaries {
    final Checks checks;
    private final Document document;
    private final Twins twins;

    Boundaries(Checks checks) {
        this.checks = checks;
        this.document = new Document(checks);
        this.twins = new Twins(checks);
    }

    /** The checks that follow look at these words of a promise. */
    void says(int promise, String words) {
        document.quote("Promise " + promise, words);
    }

    /** The checks that follow look at these words of the section 'Description'. */
    void says(String words) {
        document.quote("Description", words);
    }

    /** The checks that follow look at these words of a section that has this title. */
    void saysIn(String title, String words) {
        document.quote(title, words);
    }

    void due(String call, int got, int want) {
        checks.due(call, got, want);
    }

    /** The answers are due one after the other. */
    void due(String calls, int[] got, int... want) {
        checks.due(calls + ": how many", got.length, want.length);
        for (int i = 0; i < Math.min(got.length, want.length); i++) {
            checks.due(calls + ", number " + i, got[i], want[i]);
        }
    }

    void holds(String what, boolean truth) {
        checks.holds(what, truth);
    }

    /** A call in a state is refused with an error, and changes nothing. */
    void refused(String call, Twins.State state, Twins.Call made, int want) {
        twins.refused(call, state, made, want);
    }

    /** A call in a state is answered and changes nothing. */
    void unchanged(String call, Twins.State state, Twins.Call made, int want) {
        twins.unchanged(call, state, made, want);
    }

    void end() {
        document.end();
        checks.end();
    }

    static Counted withTypes(int types) {
        Counted x = new Counted();
        for (int i = 0; i < types; i++) {
            x.addType();
        }
        return x;
    }

    /** One type with the constructors 0 of arity 0, 1 of arity 1, 2 of arity 2 and 3 of arity 3. */
    static Counted trees() {
        Counted x = withTypes(1);
        for (int arity = 0; arity <= 3; arity++) {
            x.addConstructor(0, arity, 0, 0, 0);
        }
        return x;
    }

    /** The trees, with variables as the first nodes. */
    static Counted treesWithVariables(int variables) {
        Counted x = trees();
        for (int i = 0; i < variables; i++) {
            x.variable(0);
        }
        return x;
    }

    /** A value or term as a text, as 2(0,1(0)); a free variable as v and its number. */
    static String text(Counted x, int node) {
        int head = x.head(node);
        if (head < 0) {
            int last = node;
            for (int next = x.binding(last); next >= 0; next = x.binding(last)) {
                last = next;
            }
            return "v" + last;
        }
        StringBuilder text = new StringBuilder().append(head);
        int arity = x.arity(head);
        for (int k = 0; k < arity; k++) {
            text.append(k == 0 ? "(" : ",").append(text(x, x.child(node, k)));
        }
        return text.append(arity > 0 ? ")" : "").toString();
    }
}
