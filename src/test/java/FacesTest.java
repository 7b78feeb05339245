/** Promises 10, 11, 12 and 15: around, area, border, across. */
public final class FacesTest {
    private static final Check CHECK = new Check("FacesTest");

    public static void main(String[] args) {
        around();
        areas();
        greatestArea();
        borders();
        across();
        acrossNotThroughEnds();
        noSuchFace();
        CHECK.end();
    }

    /** Four squares within one another, the innermost first, and a segment in each face. */
    private static PlaneFaces nest() {
        PlaneFaces p = new PlaneFaces();
        for (int ring = 0; ring < 4; ring++) {
            Shapes.square(p, -10 * ring - 5, -10 * ring - 5, 20 * ring + 10);
            p.add(0, 10 * ring + 1, 0, 10 * ring + 3);
        }
        return p;
    }

    private static void around() {
        PlaneFaces p = nest();
        CHECK.equal("faces of the nest", 5, p.count(2));
        CHECK.equal("pieces of the nest", 8, p.count(3));
        int[] due = {2, 1, 3, 2, 4, 3, 0, 4};
        for (int piece = 0; piece < due.length; piece++) {
            CHECK.equal("around(" + piece + ") of the nest", due[piece], p.around(piece));
        }
        for (int piece : new int[] {-1, 8, 60, Integer.MIN_VALUE, Integer.MAX_VALUE}) {
            CHECK.outOfBounds("around(" + piece + ")", () -> p.around(piece));
        }
        p.remove(15);
        int[] open = {2, 1, 3, 2, 0, 3, 0, 0};
        for (int piece = 0; piece < open.length; piece++) {
            CHECK.equal("around(" + piece + ") of the open nest", open[piece], p.around(piece));
        }
    }

    private static void areas() {
        PlaneFaces p = nest();
        int[] due = {0, 200, 1600, 3200, 4800};
        for (int face = 0; face < due.length; face++) {
            CHECK.equal("area(" + face + ") of the nest", due[face], p.area(face));
        }
        PlaneFaces q = new PlaneFaces();
        Shapes.path(q, 0, 0, 1, 0, 0, 1, 0, 0);
        CHECK.equal("area of the least triangle", 1, q.area(1));
        Shapes.path(q, 0, 0, -5, 0, 0, -5, 0, 0);
        CHECK.equal("area of a triangle that hangs at it", 25, q.area(2));
        PlaneFaces r = new PlaneFaces();
        Shapes.square(r, 0, 0, 30);
        Shapes.path(r, 0, 0, 10, 5, 5, 10, 0, 0);
        CHECK.equal("area around a triangle at a corner", 1725, r.area(1));
        CHECK.equal("area of the triangle at a corner", 75, r.area(2));
    }

    private static void greatestArea() {
        PlaneFaces p = new PlaneFaces();
        Shapes.square(p, -16000, -16000, 32000);
        CHECK.equal("greatest area", 2048000000, p.area(1));
        Shapes.square(p, -15999, -15999, 31998);
        CHECK.equal("area of the frame", 255992, p.area(1));
        CHECK.equal("area within the frame", 2047744008, p.area(2));
    }

    private static void bordered(String what, PlaneFaces p, int face, int... due) {
        for (int i = 0; i < due.length; i++) {
            CHECK.equal("border(" + face + ", " + i + ") of " + what, due[i], p.border(face, i));
        }
        for (int other : new int[] {-1, 4, Integer.MIN_VALUE, Integer.MAX_VALUE}) {
            CHECK.equal("border(" + face + ", " + other + ") of " + what, PlaneFaces.NONE, p.border(face, other));
        }
    }

    private static void borders() {
        PlaneFaces p = nest();
        bordered("the nest", p, 0, 1, 4, 31, 1);
        bordered("the nest", p, 1, 2, 6, 0, 1);
        bordered("the nest", p, 2, 3, 10, 1, 2);
        bordered("the nest", p, 4, 3, 10, 21, 2);
        p.add(-5, -5, -7, -7);
        bordered("the nest with a tail", p, 2, 3, 12, 1, 2);
        p.add(-7, -7, -15, -15);
        bordered("the nest with a bridge", p, 2, 2, 14, 1, 1);
        PlaneFaces q = new PlaneFaces();
        q.add(0, 0, 1, 0);
        q.add(5, 0, 6, 0);
        bordered("two segments", q, 0, 2, 4, 0, 2);
    }

    private static void across() {
        PlaneFaces p = nest();
        int[] depth = {0, 4, 3, 2, 1};
        for (int from = 0; from < 5; from++) {
            for (int to = 0; to < 5; to++) {
                int due = Math.abs(depth[from] - depth[to]);
                CHECK.equal("across(" + from + ", " + to + ") of the nest", due, p.across(from, to));
            }
        }
        PlaneFaces q = new PlaneFaces();
        Shapes.path(q, 0, 0, 50, 0, 50, 10, 0, 10, 0, 0);
        q.remove(0);
        q.remove(2);
        for (int i = 0; i < 5; i++) {
            Shapes.path(q, 10 * i, 0, 10 * i + 10, 0);
            Shapes.path(q, 10 * i, 10, 10 * i + 10, 10);
            if (i > 0) {
                Shapes.path(q, 10 * i, 0, 10 * i, 10);
            }
        }
        int first = q.locate(5, 5);
        int fifth = q.locate(45, 5);
        CHECK.equal("across a row of five, by the outside", 2, q.across(first, fifth));
        CHECK.equal("across to a neighbour", 1, q.across(first, q.locate(15, 5)));
    }

    private static void acrossNotThroughEnds() {
        PlaneFaces p = new PlaneFaces();
        Shapes.path(p, 0, 0, 10, 0, 0, 10, 0, 0, -10, 0, 0, -10, 0, 0);
        CHECK.equal("faces of two triangles at a point", 3, p.count(2));
        CHECK.equal("across(1, 2) by a point", 2, p.across(1, 2));
        CHECK.equal("across(2, 1) by a point", 2, p.across(2, 1));
        CHECK.equal("across(1, 0)", 1, p.across(1, 0));
    }

    private static void noSuchFace() {
        PlaneFaces p = nest();
        for (int face : new int[] {-1, 5, 6, 121, Integer.MIN_VALUE, Integer.MAX_VALUE}) {
            CHECK.outOfBounds("area(" + face + ")", () -> p.area(face));
            CHECK.outOfBounds("border(" + face + ", 0)", () -> p.border(face, 0));
            CHECK.outOfBounds("border(" + face + ", 9)", () -> p.border(face, 9));
            CHECK.outOfBounds("across(" + face + ", 0)", () -> p.across(face, 0));
            CHECK.outOfBounds("across(0, " + face + ")", () -> p.across(0, face));
            CHECK.outOfBounds("across(" + face + ", " + face + ")", () -> p.across(face, face));
        }
    }
}
