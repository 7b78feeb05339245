/** Segments that several tests draw. */
final class Shapes {
    private Shapes() {
    }

    /** Joins the points (x0, y0), (x1, y1), ... by segments, in their order. */
    static void path(PlaneFaces plane, int... points) {
        for (int i = 0; i + 3 < points.length; i += 2) {
            if (plane.add(points[i], points[i + 1], points[i + 2], points[i + 3]) == PlaneFaces.NONE) {
                throw new AssertionError("a path's segment was refused");
            }
        }
    }

    /** A square, counterclockwise from its lower left corner: lower, right, upper, left side. */
    static void square(PlaneFaces plane, int left, int low, int side) {
        path(plane, left, low, left + side, low, left + side, low + side, left, low + side, left, low);
    }

    /** Sixty segments of which no two meet: segment s from (10 s, 0) to (10 s + 5, 5). */
    static void sixty(PlaneFaces plane) {
        for (int s = 0; s < 60; s++) {
            path(plane, 10 * s, 0, 10 * s + 5, 5);
        }
    }

    /** Point i, modulo 60, of 60 on the sides of a square around (0, 0): clockwise from its upper left corner. */
    static int[] rim(int i) {
        int along = 2000 * (i % 15) - 15000;
        switch (i % 60 / 15) {
            case 0:
                return new int[] {along, 15000};
            case 1:
                return new int[] {15000, -along};
            case 2:
                return new int[] {-along, -15000};
            default:
                return new int[] {-15000, along};
        }
    }

    private static void join(PlaneFaces plane, int[] from, int[] to) {
        path(plane, from[0], from[1], to[0], to[1]);
    }

    /** Sixty segments in one closed path, clockwise: segment s from rim point s to the next one. */
    static void ring(PlaneFaces plane) {
        for (int s = 0; s < 60; s++) {
            join(plane, rim(s), rim(s + 1));
        }
    }

    /** Sixty segments from (0, 0): segment s to rim point 7 s, so that their order is not that of the directions. */
    static void star(PlaneFaces plane) {
        for (int s = 0; s < 60; s++) {
            join(plane, new int[] {0, 0}, rim(7 * s));
        }
    }

    /** Thirty spokes from (0, 0) to rim points 0, 2, 4 .., then thirty segments of the rim, clockwise from point 0. */
    static void wheel(PlaneFaces plane) {
        for (int s = 0; s < 30; s++) {
            join(plane, new int[] {0, 0}, rim(2 * s));
        }
        for (int s = 0; s < 30; s++) {
            join(plane, rim(2 * s), rim(2 * s + 2));
        }
    }

    /** Twenty triangles around (0, 0), counterclockwise, the innermost first: triangle t reaches 10 t + 10 aside. */
    static void triangles(PlaneFaces plane) {
        for (int t = 1; t <= 20; t++) {
            path(plane, -10 * t, -10 * t, 10 * t, -10 * t, 0, 15 * t, -10 * t, -10 * t);
        }
    }

    /** As many faces as sixty segments can have, forty: seven triangles around (0, 0) and triangles between them. */
    static void most(PlaneFaces plane) {
        int[] x = {-10, 10, 0};
        int[] y = {-10, -10, 15};
        for (int i = 0; i < 3; i++) {
            path(plane, 0, 0, x[i], y[i]);
        }
        for (int t = 1; t <= 7; t++) {
            for (int i = 0; i < 3; i++) {
                int j = (i + 1) % 3;
                path(plane, t * x[i], t * y[i], t * x[j], t * y[j]);
                if (t < 7) {
                    path(plane, t * x[i], t * y[i], (t + 1) * x[i], (t + 1) * y[i]);
                    path(plane, t * x[i], t * y[i], (t + 1) * x[j], (t + 1) * y[j]);
                }
            }
        }
    }

    /**
     * Two squares within one another, the outer one with a tail to its inside and one to its outside, a triangle within
     * the inner one, a square apart, a free number between, and a segment by itself in each of two faces.
     */
    static void medley(PlaneFaces plane) {
        square(plane, 30, 30, 40);
        square(plane, 0, 0, 100);
        path(plane, 0, 0, 10, 10);
        path(plane, 100, 100, 110, 105);
        path(plane, 40, 40, 60, 40, 50, 60, 40, 40);
        square(plane, 200, 0, 10);
        path(plane, 15, 50, 25, 50);
        path(plane, 150, 50, 150, 60);
        path(plane, 400, 0, 400, 10);
        plane.remove(18);
    }
}
