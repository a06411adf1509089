/** Each sentence of the document that names a boundary case, at the boundary and on both sides of it. */
public final class BoundaryTest {
    public static void main(String[] args) {
        Boundaries boundaries = new Boundaries(new Checks("BoundaryTest"));
        new DescriptionBoundaries(boundaries).run();
        new TypeBoundaries(boundaries).run();
        new NodeBoundaries(boundaries).run();
        new UnificationBoundaries(boundaries).run();
        new RowBoundaries(boundaries).run();
        boundaries.end();
    }
}
