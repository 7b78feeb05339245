/** Segments that several tests draw. */
final class Shapes {
    private Shapes() {
    }

    /** Joins the points (x0, y0), (x1, y1), ... by segments, in their order. */
    static void path(PlaneFaces plane, int... points) {
        for (int i = 0; i + 3 < points.length; i += 2) {
            if (plane.add(points[i], points[i + 1], points[i + 2], points[i + 3]) == PlaneFaces.NONE) {
                throw new AssertionError("a path's segment was refused");
            }
        }
    }

    /** A square, counterclockwise from its lower left corner: lower, right, upper, left side. */
    static void square(PlaneFaces plane, int left, int low, int side) {
        path(plane, left, low, left + side, low, left + side, low + side, left, low + side, left, low);
    }

    /** Sixty segments of which no two meet: segment s from (10 s, 0) to (10 s + 5, 5). */
    static void sixty(PlaneFaces plane) {
        for (int s = 0; s < 60; s++) {
            path(plane, 10 * s, 0, 10 * s + 5, 5);
        }
    }
}
