/** Boundary cases of promises 10, 11, 12 and 15 (around, area, border, across): a test for each such sentence. */
public final class FacesBoundaryTest {
    private static final Check CHECK = new Check("FacesBoundaryTest");
    private static final int[] NEVER = {-1, -2, 60, 61, 120, 121, 122, Integer.MAX_VALUE, Integer.MIN_VALUE};

    public static void main(String[] args) {
        CHECK.sentence("10: The face in which a PIECE lies", FacesBoundaryTest::aroundWithin);
        CHECK.sentence("10: (that around it), not one beside it", FacesBoundaryTest::aroundBeside);
        CHECK.sentence("10: (that around it), straight under ends and uprights", FacesBoundaryTest::aroundUnderEnds);
        CHECK.sentence("10: IndexOutOfBounds", FacesBoundaryTest::aroundOfNone);
        CHECK.sentence("11: Twice the area of a face, the least and the greatest", FacesBoundaryTest::leastAndGreatest);
        CHECK.sentence("11: Twice the area of a face, without what lies within", FacesBoundaryTest::areaWithHoles);
        CHECK.sentence("11: Twice the area of a face, whatever hangs in it", FacesBoundaryTest::areaWithTails);
        CHECK.sentence("11: 0 for FACE 0", FacesBoundaryTest::areaOfFaceZero);
        CHECK.sentence("11: IndexOutOfBounds", FacesBoundaryTest::areaOfNone);
        CHECK.sentence("12: what = 0 its ROUNDS", FacesBoundaryTest::borderRounds);
        CHECK.sentence("12: 1 the halves of them in all", FacesBoundaryTest::borderHalves);
        CHECK.sentence("12: 2 the least half", FacesBoundaryTest::borderLeast);
        CHECK.sentence("12: (NONE without one)", FacesBoundaryTest::borderWithout);
        CHECK.sentence("12: 3 the PIECES that lie in it (around them)", FacesBoundaryTest::borderPieces);
        CHECK.sentence("12: NONE for another what", FacesBoundaryTest::borderAnother);
        CHECK.sentence("12: IndexOutOfBounds", FacesBoundaryTest::borderOfNone);
        CHECK.sentence("15: The fewest segments", FacesBoundaryTest::fewest);
        CHECK.sentence("15: from a face to another one, or to itself", FacesBoundaryTest::toItself);
        CHECK.sentence("15: not through an end", FacesBoundaryTest::notThroughAnEnd);
        CHECK.sentence("15: IndexOutOfBounds", FacesBoundaryTest::acrossOfNone);
        CHECK.end();
    }

    private static void aroundWithin() {
        PlaneFaces p = new PlaneFaces();
        Shapes.triangles(p);
        for (int piece = 0; piece < 20; piece++) {
            CHECK.equal("around(" + piece + ") of the triangles", (piece + 2) % 21, p.around(piece));
        }
        p.remove(59);
        CHECK.equal("around(18) when the outermost is open", 0, p.around(18));
        CHECK.equal("around(19) when it is open", 0, p.around(19));
        CHECK.equal("around(17) when it is open", 19, p.around(17));
        PlaneFaces frame = new PlaneFaces();
        frame.add(0, 0, 1, 0);
        CHECK.equal("around(0) of one by itself", 0, frame.around(0));
        Shapes.square(frame, -16000, -16000, 32000);
        CHECK.equal("around(0) within the bounds' frame", 1, frame.around(0));
        CHECK.equal("around(1), the frame", 0, frame.around(1));
        frame.add(-15999, -15999, -15999, 15999);
        frame.add(15999, 15998, 15999, 15999);
        CHECK.equal("around(2), hard by the frame", 1, frame.around(2));
        CHECK.equal("around(3), hard by its corner", 1, frame.around(3));
        PlaneFaces apart = new PlaneFaces();
        Shapes.sixty(apart);
        CHECK.equal("around(0) of sixty", 0, apart.around(0));
        CHECK.equal("around(59) of sixty", 0, apart.around(59));
    }

    private static void aroundBeside() {
        PlaneFaces p = new PlaneFaces();
        Shapes.path(p, 0, 0, 30, 0, 30, 10, 10, 10, 10, 20, 30, 20, 30, 30, 0, 30, 0, 0);
        p.add(15, 15, 20, 15);
        CHECK.equal("around(1) in the mouth of a C", 0, p.around(1));
        p.add(5, 5, 6, 15);
        CHECK.equal("around(2) in the C", 1, p.around(2));
        p.add(30, 10, 30, 20);
        CHECK.equal("around(1) when the mouth is shut", 2, p.around(1));
        CHECK.equal("around(2) then", 1, p.around(2));
        PlaneFaces q = new PlaneFaces();
        Shapes.path(q, 0, 0, 100, 0, 0, 100, 0, 0);
        q.add(90, 90, 91, 91);
        q.add(51, 50, 52, 50);
        q.add(40, 50, 49, 50);
        q.add(-1, 50, -2, 50);
        q.add(110, 50, 120, 50);
        q.add(50, -5, 60, -1);
        q.add(10, 95, 20, 200);
        int[] due = {0, 0, 0, 1, 0, 0, 0, 0};
        for (int piece = 0; piece < due.length; piece++) {
            CHECK.equal("around(" + piece + ") by a triangle", due[piece], q.around(piece));
        }
        PlaneFaces wheel = new PlaneFaces();
        Shapes.path(wheel, -90, -90, 90, -90, 90, 90, -90, 90, -90, -90, 0, 0, 90, 90);
        Shapes.path(wheel, 90, -90, 0, 0, -90, 90);
        wheel.add(0, 1, 0, 2);
        wheel.add(1, 0, 2, 0);
        wheel.add(0, -1, 0, -2);
        wheel.add(-1, 0, -2, 0);
        int[] face = {0, wheel.face(4), wheel.face(2), wheel.face(0), wheel.face(6)};
        CHECK.equal("faces of the wheel", 5, wheel.count(2));
        for (int piece = 0; piece < 5; piece++) {
            CHECK.equal("around(" + piece + ") by the hub of four faces", face[piece], wheel.around(piece));
        }
    }

    /** A ray straight up, down or aside from these pieces meets ends and whole segments of what is around them. */
    private static void aroundUnderEnds() {
        PlaneFaces p = new PlaneFaces();
        Shapes.path(p, 0, -20, 20, 0, 0, 20, -20, 0, 0, -20);
        p.add(0, 0, 0, 1);
        p.add(0, 21, 0, 22);
        p.add(0, -22, 0, -21);
        p.add(21, 0, 22, 0);
        p.add(-22, 0, -21, 0);
        p.add(20, -5, 20, -6);
        p.add(-20, -5, -20, -6);
        int[] due = {0, 1, 0, 0, 0, 0, 0, 0};
        for (int piece = 0; piece < due.length; piece++) {
            CHECK.equal("around(" + piece + ") by a diamond", due[piece], p.around(piece));
        }
        PlaneFaces crown = new PlaneFaces();
        Shapes.path(crown, 0, 0, 40, 0, 40, 30, 30, 10, 20, 30, 20, 10, 10, 10, 10, 30, 0, 30, 0, 0);
        crown.add(10, 5, 11, 5);
        crown.add(20, 5, 21, 5);
        crown.add(30, 5, 31, 5);
        crown.add(30, 20, 31, 25);
        crown.add(15, 20, 16, 20);
        crown.add(10, -5, 20, -5);
        crown.add(0, -5, 0, -6);
        crown.add(40, -5, 40, -6);
        crown.add(5, 10, 6, 10);
        int[] around = {0, 1, 1, 1, 0, 0, 0, 0, 0, 1};
        for (int piece = 0; piece < around.length; piece++) {
            CHECK.equal("around(" + piece + ") by a crown", around[piece], crown.around(piece));
        }
    }

    private static void aroundOfNone() {
        PlaneFaces none = new PlaneFaces();
        CHECK.outOfBounds("around(0) of none", () -> none.around(0));
        PlaneFaces p = new PlaneFaces();
        Shapes.medley(p);
        CHECK.equal("around(5) of six", 0, p.around(5));
        CHECK.outOfBounds("around(6) of six", () -> p.around(6));
        p.remove(19);
        CHECK.outOfBounds("around(5) of five", () -> p.around(5));
        for (int piece : NEVER) {
            CHECK.outOfBounds("around(" + piece + ") of five", () -> p.around(piece));
        }
        p.clear();
        CHECK.outOfBounds("around(0) when all are gone", () -> p.around(0));
    }

    private static void leastAndGreatest() {
        int[][] corners = {{0, 0, 1, 1}, {15999, 15999, 1, 1}, {-15999, -15999, -1, -1}, {-15999, 15999, -1, 1}};
        for (int[] c : corners) {
            PlaneFaces p = new PlaneFaces();
            Shapes.path(p, c[0], c[1], c[0] + c[2], c[1], c[0], c[1] + c[3], c[0], c[1]);
            CHECK.equal("area(1) of the least triangle at " + c[0] + ", " + c[1], 1, p.area(1));
        }
        PlaneFaces hair = new PlaneFaces();
        Shapes.path(hair, -16000, -16000, 16000, 15999, 15999, 15998, -16000, -16000);
        CHECK.equal("area(1) of a triangle as long as can be", 1, hair.area(1));
        PlaneFaces frame = new PlaneFaces();
        Shapes.path(frame, -16000, -16000, -16000, 16000, 16000, 16000, 16000, -16000, -16000, -16000);
        CHECK.equal("area(1) of the bounds' frame", 2048000000, frame.area(1));
        frame.add(-16000, -16000, 16000, 16000);
        CHECK.equal("area(1) of its upper half", 1024000000, frame.area(1));
        CHECK.equal("area(2) of its lower half", 1024000000, frame.area(2));
        PlaneFaces less = new PlaneFaces();
        Shapes.path(less, -16000, -16000, 16000, -16000, 16000, 15999, 15999, 16000, -16000, 16000, -16000, -16000);
        CHECK.equal("area(1) of the frame less a corner", 2047999999, less.area(1));
        Shapes.path(less, 16000, 15999, 16000, 16000, 15999, 16000);
        CHECK.equal("area(2) of the corner", 1, less.area(2));
    }

    private static void areaWithHoles() {
        PlaneFaces p = new PlaneFaces();
        Shapes.triangles(p);
        for (int face = 1; face <= 20; face++) {
            CHECK.equal("area(" + face + ") of the triangles", 500 * (2 * face - 1), p.area(face));
        }
        PlaneFaces medley = new PlaneFaces();
        Shapes.medley(medley);
        int[] due = {0, 3200 - 400, 20000 - 3200, 400, 200};
        for (int face = 0; face < 5; face++) {
            CHECK.equal("area(" + face + ") of the medley", due[face], medley.area(face));
        }
        PlaneFaces frame = new PlaneFaces();
        Shapes.square(frame, -16000, -16000, 32000);
        Shapes.path(frame, 0, 0, 10, 0, 0, 10, 0, 0, -10, 0, 0, -10, 0, 0);
        CHECK.equal("area(1) around two triangles at one end", 2048000000 - 200, frame.area(1));
        Shapes.square(frame, 100, 0, 10);
        Shapes.path(frame, 110, 0, 120, 0, 120, 10, 110, 10);
        CHECK.equal("area(1) around two squares with one side", 2048000000 - 600, frame.area(1));
    }

    private static void areaWithTails() {
        PlaneFaces p = new PlaneFaces();
        Shapes.square(p, 0, 0, 100);
        p.add(0, 0, 10, 20);
        CHECK.equal("area(1) with a tail", 20000, p.area(1));
        p.add(50, 50, 60, 61);
        CHECK.equal("area(1) with a segment by itself", 20000, p.area(1));
        Shapes.path(p, 70, 70, 80, 70, 80, 80, 70, 80);
        CHECK.equal("area(1) with an open square", 20000, p.area(1));
        p.add(70, 80, 70, 70);
        CHECK.equal("area(1) when it is shut", 19800, p.area(1));
        p.add(80, 80, 100, 100);
        CHECK.equal("area(1) with a bridge to it", 19800, p.area(1));
        p.add(100, 100, 150, 170);
        CHECK.equal("area(1) with a tail outside", 19800, p.area(1));
        Shapes.path(p, 0, 100, 5, 90, 10, 95, 0, 100);
        CHECK.equal("area(1) with a triangle that hangs in a corner", 19800 - 75, p.area(1));
    }

    private static void areaOfFaceZero() {
        PlaneFaces p = new PlaneFaces();
        CHECK.equal("area(0) of none", 0, p.area(0));
        p.add(0, 0, 5, 7);
        CHECK.equal("area(0) of one", 0, p.area(0));
        Shapes.square(p, 100, 100, 10);
        CHECK.equal("area(0) with a square", 0, p.area(0));
        Shapes.path(p, -10, -10, -10, -5, -5, -10, -10, -10);
        CHECK.equal("area(0) with a triangle, clockwise", 0, p.area(0));
        Shapes.square(p, -16000, -16000, 32000);
        CHECK.equal("area(0) with the bounds' frame", 0, p.area(0));
        p.clear();
        CHECK.equal("area(0) when all are gone", 0, p.area(0));
    }

    private static void areaOfNone() {
        PlaneFaces p = new PlaneFaces();
        CHECK.outOfBounds("area(1) of none", () -> p.area(1));
        Shapes.medley(p);
        CHECK.equal("area(4) of five faces", 200, p.area(4));
        CHECK.outOfBounds("area(5) of five faces", () -> p.area(5));
        p.remove(16);
        CHECK.outOfBounds("area(4) of four faces", () -> p.area(4));
        for (int face : NEVER) {
            CHECK.outOfBounds("area(" + face + ")", () -> p.area(face));
        }
    }

    private static void bordered(int what, PlaneFaces p, String of, int... due) {
        for (int face = 0; face < due.length; face++) {
            CHECK.equal("border(" + face + ", " + what + ") of " + of, due[face], p.border(face, what));
        }
    }

    /** What border answers for face 0: of none, sixty apart, the star, the ring. */
    private static void borderedFaceZero(int what, int none, int apart, int star, int ring) {
        PlaneFaces p = new PlaneFaces();
        bordered(what, p, "none", none);
        Shapes.sixty(p);
        bordered(what, p, "sixty apart", apart);
        PlaneFaces q = new PlaneFaces();
        Shapes.star(q);
        bordered(what, q, "the star", star);
        PlaneFaces r = new PlaneFaces();
        Shapes.ring(r);
        bordered(what, r, "the ring", ring);
    }

    /** Two squares within one another, by themselves, then with a bridge, then with two. */
    private static void borderedSquares(int what, int[] apart, int[] bridge, int[] bridges) {
        PlaneFaces p = new PlaneFaces();
        Shapes.square(p, 40, 40, 20);
        Shapes.square(p, 0, 0, 100);
        bordered(what, p, "two squares", apart);
        p.add(40, 40, 0, 0);
        bordered(what, p, "two squares with a bridge", bridge);
        p.add(60, 60, 100, 100);
        bordered(what, p, "two squares with two bridges", bridges);
    }

    private static int[] row(int... values) {
        return values;
    }

    private static void borderRounds() {
        borderedFaceZero(0, 0, 60, 1, 1);
        borderedSquares(0, row(1, 1, 2), row(1, 1, 1), row(1, 1, 1, 1));
        PlaneFaces p = new PlaneFaces();
        Shapes.medley(p);
        bordered(0, p, "the medley", 3, 2, 3, 1, 1);
        p.remove(0);
        bordered(0, p, "the medley with the inner square open", 3, 4, 1, 1);
    }

    private static void borderHalves() {
        borderedFaceZero(1, 0, 120, 120, 60);
        borderedSquares(1, row(4, 4, 8), row(4, 4, 10), row(4, 4, 6, 6));
        PlaneFaces p = new PlaneFaces();
        Shapes.medley(p);
        bordered(1, p, "the medley", 12, 7, 12, 3, 4);
        p.remove(0);
        bordered(1, p, "the medley with the inner square open", 12, 4 + 2 + 6 + 3 + 2, 3, 4);
    }

    private static void borderLeast() {
        borderedFaceZero(2, PlaneFaces.NONE, 0, 0, 0);
        borderedSquares(2, row(9, 0, 1), row(9, 0, 1), row(9, 0, 1, 5));
        PlaneFaces p = new PlaneFaces();
        Shapes.medley(p);
        bordered(2, p, "the medley", 9, 0, 1, 20, 26);
        p.remove(0);
        bordered(2, p, "the medley with the inner square open", 9, 2, 20, 26);
        PlaneFaces q = new PlaneFaces();
        Shapes.sixty(q);
        for (int s = 0; s < 59; s++) {
            q.remove(s);
        }
        bordered(2, q, "segment 59 alone", 118);
        PlaneFaces r = new PlaneFaces();
        Shapes.triangles(r);
        CHECK.equal("border(0, 2) of the triangles", 6 * 19 + 1, r.border(0, 2));
        CHECK.equal("border(20, 2) of the triangles", 6 * 18 + 1, r.border(20, 2));
    }

    private static void borderWithout() {
        PlaneFaces p = new PlaneFaces();
        CHECK.equal("border(0, 2) of none", PlaneFaces.NONE, p.border(0, 2));
        p.add(0, 0, 1, 0);
        CHECK.equal("border(0, 2) of one", 0, p.border(0, 2));
        p.remove(0);
        CHECK.equal("border(0, 2) when it is gone", PlaneFaces.NONE, p.border(0, 2));
        Shapes.triangles(p);
        CHECK.equal("border(0, 2) of sixty", 115, p.border(0, 2));
        p.clear();
        CHECK.equal("border(0, 2) when sixty are gone", PlaneFaces.NONE, p.border(0, 2));
        CHECK.equal("border(0, 0) then", 0, p.border(0, 0));
        CHECK.equal("border(0, 1) then", 0, p.border(0, 1));
        CHECK.equal("border(0, 3) then", 0, p.border(0, 3));
    }

    private static void borderPieces() {
        borderedFaceZero(3, 0, 60, 1, 1);
        borderedSquares(3, row(1, 0, 1), row(1, 0, 0), row(1, 0, 0, 0));
        PlaneFaces p = new PlaneFaces();
        Shapes.medley(p);
        bordered(3, p, "the medley", 3, 1, 2, 0, 0);
        p.remove(0);
        bordered(3, p, "the medley with the inner square open", 3, 3, 0, 0);
        p.remove(4);
        bordered(3, p, "the medley with both squares open", 6, 0, 0);
        PlaneFaces q = new PlaneFaces();
        Shapes.triangles(q);
        CHECK.equal("border(0, 3) of the triangles", 1, q.border(0, 3));
        CHECK.equal("border(20, 3) of the triangles", 1, q.border(20, 3));
        CHECK.equal("border(1, 3) of the triangles", 0, q.border(1, 3));
    }

    private static void borderAnother() {
        PlaneFaces none = new PlaneFaces();
        PlaneFaces p = new PlaneFaces();
        Shapes.medley(p);
        for (int what : new int[] {-1, -2, 4, 5, 6, 60, Integer.MAX_VALUE, Integer.MIN_VALUE}) {
            CHECK.equal("border(0, " + what + ") of none", PlaneFaces.NONE, none.border(0, what));
            for (int face = 0; face < 5; face++) {
                CHECK.equal("border(" + face + ", " + what + ")", PlaneFaces.NONE, p.border(face, what));
            }
        }
    }

    private static void borderOfNone() {
        PlaneFaces p = new PlaneFaces();
        CHECK.outOfBounds("border(1, 0) of none", () -> p.border(1, 0));
        Shapes.medley(p);
        CHECK.equal("border(4, 0) of five faces", 1, p.border(4, 0));
        p.remove(16);
        for (int what : new int[] {-1, 0, 1, 2, 3, 4, Integer.MAX_VALUE}) {
            CHECK.outOfBounds("border(4, " + what + ") of four faces", () -> p.border(4, what));
            for (int face : NEVER) {
                CHECK.outOfBounds("border(" + face + ", " + what + ")", () -> p.border(face, what));
            }
        }
    }

    private static void fewest() {
        PlaneFaces p = new PlaneFaces();
        Shapes.triangles(p);
        for (int from = 0; from <= 20; from++) {
            int to = 20 - from;
            int outFrom = from == 0 ? 21 : from;
            int outTo = to == 0 ? 21 : to;
            CHECK.equal("across(" + from + ", " + to + ")", Math.abs(outFrom - outTo), p.across(from, to));
        }
        CHECK.equal("across(0, 1), from the outside to the middle", 20, p.across(0, 1));
        CHECK.equal("across(1, 0), from the middle to the outside", 20, p.across(1, 0));
        PlaneFaces row = new PlaneFaces();
        for (int i = 0; i <= 9; i++) {
            Shapes.path(row, 10 * i, 0, 10 * i, 10);
        }
        for (int i = 0; i < 9; i++) {
            Shapes.path(row, 10 * i, 0, 10 * i + 10, 0);
            Shapes.path(row, 10 * i, 10, 10 * i + 10, 10);
        }
        int first = row.locate(5, 5);
        int[] due = {0, 1, 2, 2, 2, 2, 2, 2, 2};
        for (int i = 0; i < 9; i++) {
            CHECK.equal("across to number " + i + " of a row, by face 0", due[i],
                row.across(first, row.locate(10 * i + 5, 5)));
        }
        Shapes.square(row, -100, -100, 300);
        CHECK.equal("across from a row to face 0 beyond a square", 2, row.across(row.locate(45, 5), 0));
        row.add(0, 0, -100, -100);
        CHECK.equal("the same with a bridge", 2, row.across(row.locate(45, 5), 0));
        wallOf(0);
        wallOf(6);
        wallOf(59);
        PlaneFaces most = new PlaneFaces();
        Shapes.most(most);
        CHECK.equal("across from the outside to the middle of forty faces", 1 + 2 * 6, most.across(0, 1));
    }

    /** Two squares with one side in common, which bears this number. */
    private static void wallOf(int number) {
        PlaneFaces p = new PlaneFaces();
        for (int s = 0; s < number; s++) {
            Shapes.path(p, 10 * s, 0, 10 * s + 5, 5);
        }
        Shapes.path(p, 100, 50, 100, 60);
        for (int s = 0; s < number; s++) {
            p.remove(s);
        }
        Shapes.path(p, 100, 60, 90, 60, 90, 50, 100, 50, 110, 50, 110, 60, 100, 60);
        CHECK.equal("x where wall " + number + " begins", 100, p.begins(2 * number, false));
        CHECK.equal("across wall " + number, 1, p.across(p.locate(95, 55), p.locate(105, 55)));
        p.remove(number);
        CHECK.equal("faces without wall " + number, 2, p.count(2));
    }

    private static void toItself() {
        PlaneFaces none = new PlaneFaces();
        CHECK.equal("across(0, 0) of none", 0, none.across(0, 0));
        PlaneFaces p = new PlaneFaces();
        Shapes.medley(p);
        for (int face = 0; face < 5; face++) {
            CHECK.equal("across(" + face + ", " + face + ")", 0, p.across(face, face));
        }
        CHECK.equal("across(3, 4)", 4, p.across(3, 4));
        CHECK.equal("across(4, 3)", 4, p.across(4, 3));
        CHECK.equal("across(0, 4)", 1, p.across(0, 4));
        CHECK.equal("across(2, 0)", 1, p.across(2, 0));
        p.remove(4);
        CHECK.equal("across to the triangle when the outer square is open", 2, p.across(0, p.face(20)));
    }

    private static void notThroughAnEnd() {
        PlaneFaces p = new PlaneFaces();
        Shapes.path(p, 0, 0, 10, 0, 0, 10, 0, 0, -10, 0, 0, -10, 0, 0);
        CHECK.equal("across between two triangles at one end", 2, p.across(1, 2));
        PlaneFaces wheel = new PlaneFaces();
        Shapes.path(wheel, -9, -9, 9, -9, 9, 9, -9, 9, -9, -9, 0, 0, 9, 9);
        Shapes.path(wheel, 9, -9, 0, 0, -9, 9);
        int low = wheel.face(0);
        CHECK.equal("across the hub of four faces", 2, wheel.across(low, wheel.face(4)));
        CHECK.equal("across to a neighbour by the hub", 1, wheel.across(low, wheel.face(2)));
        Shapes.path(wheel, 9, 9, 20, 9, 20, 20, 9, 9);
        CHECK.equal("across from a corner to a triangle at it", 2, wheel.across(wheel.face(2), wheel.locate(19, 10)));
        PlaneFaces corner = new PlaneFaces();
        Shapes.square(corner, 0, 0, 100);
        Shapes.path(corner, 0, 0, 20, 10, 10, 20, 0, 0);
        CHECK.equal("across from outside to a triangle that hangs in a corner", 2, corner.across(0, 2));
    }

    private static void acrossOfNone() {
        PlaneFaces p = new PlaneFaces();
        CHECK.outOfBounds("across(0, 1) of none", () -> p.across(0, 1));
        CHECK.outOfBounds("across(1, 0) of none", () -> p.across(1, 0));
        CHECK.outOfBounds("across(1, 1) of none", () -> p.across(1, 1));
        Shapes.medley(p);
        CHECK.equal("across(0, 4) of five faces", 1, p.across(0, 4));
        p.remove(16);
        CHECK.outOfBounds("across(0, 4) of four faces", () -> p.across(0, 4));
        CHECK.outOfBounds("across(4, 0) of four faces", () -> p.across(4, 0));
        CHECK.outOfBounds("across(4, 4) of four faces", () -> p.across(4, 4));
        for (int face : NEVER) {
            CHECK.outOfBounds("across(1, " + face + ")", () -> p.across(1, face));
            CHECK.outOfBounds("across(" + face + ", 1)", () -> p.across(face, 1));
            CHECK.outOfBounds("across(" + face + ", " + face + ")", () -> p.across(face, face));
        }
    }
}
