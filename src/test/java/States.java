/** Objects in the states that the tests of refused calls begin with. */
final class States {
    // Constructors that both states have.
    static final int LEAF = 0;
    static final int NIL = 2;
    static final int CONS = 3;
    static final int TRIPLE = 4;
    static final int LOOP = 5;
    // Nodes that both states have.
    static final int FREE_FLAG = 0;
    static final int FREE_LIST = 1;
    static final int FLAG = 2;
    static final int EMPTY_LIST = 3;
    static final int PATTERN = 4;
    static final int BOUND_FLAG = 5;
    static final int BOUND_LIST = 6;
    static final int LISTED = 8;
    static final int VOID = 9;
    static final int BINDS_THEN_CYCLES = 11;
    static final int CYCLES = 12;
    static final int BINDS_THEN_CLASHES = 13;
    static final int CLASHES = 14;
    static final int LARGE = 19;
    static final int WORKED_NODES = 23;

    private States() {
    }

    static Counted fresh() {
        return new Counted();
    }

    /** 3 types, 6 constructors, 23 nodes, 3 bindings, 2 saved states, 3 rows: room is left for all. */
    static Counted worked() {
        Counted x = new Counted();
        for (int i = 0; i < 3; i++) {
            x.addType();
        }
        defineAndCreate(x);
        x.push();
        x.unify(BOUND_FLAG, FLAG);
        x.push();
        x.unify(BOUND_LIST, LISTED);
        x.unify(7, BOUND_LIST);
        x.addRow(PATTERN);
        x.addRow(EMPTY_LIST);
        x.addRow(BOUND_LIST);
        return x;
    }

    /** 4 types, 12 constructors, 100 nodes, 8 saved states, 8 rows. */
    static Counted full() {
        Counted x = new Counted();
        for (int i = 0; i < 4; i++) {
            x.addType();
        }
        defineAndCreate(x);
        x.addConstructor(3, 0, 0, 0, 0);
        x.addConstructor(3, 1, 3, 0, 0);
        x.addConstructor(3, 2, 0, 0, 0);
        x.addConstructor(3, 3, 0, 0, 0);
        x.addConstructor(3, 0, 0, 0, 0);
        x.addConstructor(0, 0, 0, 0, 0);
        for (int node = WORKED_NODES; node < 100; node++) {
            x.variable(node % 2);
        }
        for (int i = 0; i < 8; i++) {
            x.push();
            x.unify(23 + 2 * i, 25 + 2 * i);
        }
        x.unify(BOUND_FLAG, FLAG);
        x.unify(BOUND_LIST, LISTED);
        x.unify(7, BOUND_LIST);
        x.addRow(PATTERN);
        x.addRow(EMPTY_LIST);
        for (int i = 2; i < 8; i++) {
            x.addRow(BOUND_LIST);
        }
        return x;
    }

    /** Type 0 has two flags, type 1 lists of flags, and type 2 no values, as its values would be endless. */
    private static void defineAndCreate(Counted x) {
        x.addConstructor(0, 0, 0, 0, 0);
        x.addConstructor(0, 0, 0, 0, 0);
        x.addConstructor(1, 0, 0, 0, 0);
        x.addConstructor(1, 2, 0, 1, 0);
        x.addConstructor(1, 3, 1, 0, 1);
        x.addConstructor(2, 1, 2, 0, 0);
        x.variable(0);
        x.variable(1);
        x.term(LEAF + 1, 0, 0, 0);
        x.term(NIL, 0, 0, 0);
        x.term(CONS, FREE_FLAG, FREE_LIST, 0);
        x.variable(0);
        x.variable(1);
        x.variable(1);
        x.term(CONS, FLAG, EMPTY_LIST, 0);
        x.variable(2);
        x.term(LOOP, VOID, 0, 0);
        x.term(CONS, FREE_FLAG, FREE_LIST, 0);
        x.term(CONS, FLAG, BINDS_THEN_CYCLES, 0);
        x.term(CONS, FREE_FLAG, LISTED, 0);
        x.term(CONS, FLAG, EMPTY_LIST, 0);
        x.term(TRIPLE, LISTED, FLAG, LISTED);
        x.term(TRIPLE, 15, FLAG, 15);
        x.term(TRIPLE, 16, FLAG, 16);
        x.term(TRIPLE, 17, FLAG, 17);
        x.term(TRIPLE, 18, FLAG, 18);
        x.value(1, 3, 1);
    }
}
