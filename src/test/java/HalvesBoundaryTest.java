/** Boundary cases of promises 5 to 9 (count, begins, next, face, piece): a test for each sentence that names one. */
public final class HalvesBoundaryTest {
    private static final Check CHECK = new Check("HalvesBoundaryTest");
    private static final int[] NEVER = {-1, -2, -120, 120, 121, Integer.MAX_VALUE, Integer.MIN_VALUE};

    public static void main(String[] args) {
        CHECK.sentence("5: what = 0 segments", HalvesBoundaryTest::segments);
        CHECK.sentence("5: 1 ends (points, each once)", HalvesBoundaryTest::ends);
        CHECK.sentence("5: 2 faces", HalvesBoundaryTest::faces);
        CHECK.sentence("5: 3 PIECES", HalvesBoundaryTest::pieces);
        CHECK.sentence("5: 4 segments with the same face on both sides", HalvesBoundaryTest::sameFace);
        CHECK.sentence("5: 5 ROUNDS", HalvesBoundaryTest::rounds);
        CHECK.sentence("5: NONE for another what", HalvesBoundaryTest::anotherWhat);
        CHECK.sentence("6: Where a half begins: its x, or its y", HalvesBoundaryTest::begins);
        CHECK.sentence("6: IndexOutOfBounds", HalvesBoundaryTest::beginsOfNone);
        CHECK.sentence("7: THE NEXT half", HalvesBoundaryTest::next);
        CHECK.sentence("7: IndexOutOfBounds", HalvesBoundaryTest::nextOfNone);
        CHECK.sentence("8: The face to the LEFT of a half", HalvesBoundaryTest::face);
        CHECK.sentence("8: IndexOutOfBounds", HalvesBoundaryTest::faceOfNone);
        CHECK.sentence("9: The PIECE that a half's segment is of", HalvesBoundaryTest::piece);
        CHECK.sentence("9: IndexOutOfBounds", HalvesBoundaryTest::pieceOfNone);
        CHECK.end();
    }

    /** What count answers of none, sixty apart, the star, the ring, the wheel, the triangles and the medley. */
    private static void counted(int what, int... due) {
        PlaneFaces[] planes = new PlaneFaces[7];
        for (int i = 0; i < 7; i++) {
            planes[i] = new PlaneFaces();
        }
        Shapes.sixty(planes[1]);
        Shapes.star(planes[2]);
        Shapes.ring(planes[3]);
        Shapes.wheel(planes[4]);
        Shapes.triangles(planes[5]);
        Shapes.medley(planes[6]);
        String[] names = {"none", "sixty apart", "the star", "the ring", "the wheel", "the triangles", "the medley"};
        for (int i = 0; i < 7; i++) {
            CHECK.equal("count(" + what + ") of " + names[i], due[i], planes[i].count(what));
            planes[i].clear();
            CHECK.equal("count(" + what + ") of " + names[i] + ", cleared", due[0], planes[i].count(what));
        }
    }

    private static void segments() {
        counted(0, 0, 60, 60, 60, 60, 60, 19);
        PlaneFaces p = new PlaneFaces();
        p.add(0, 0, 1, 0);
        CHECK.equal("count(0) of one", 1, p.count(0));
        p.add(0, 0, 1, 0);
        CHECK.equal("count(0) with one refused", 1, p.count(0));
        p.remove(0);
        CHECK.equal("count(0) when it is gone", 0, p.count(0));
    }

    private static void ends() {
        counted(1, 0, 120, 61, 60, 31, 60, 21);
        PlaneFaces p = new PlaneFaces();
        p.add(0, 0, 1, 0);
        CHECK.equal("count(1) of one", 2, p.count(1));
        p.add(1, 0, 0, 1);
        CHECK.equal("count(1) of two at one end", 3, p.count(1));
        p.add(0, 0, 0, 1);
        CHECK.equal("count(1) of three between three points", 3, p.count(1));
        p.remove(0);
        CHECK.equal("count(1) when one is gone and both its ends stay", 3, p.count(1));
        p.remove(1);
        CHECK.equal("count(1) when an end is gone with its segment", 2, p.count(1));
        p.add(-1, 0, 1, -1);
        CHECK.equal("count(1) with two that have but one coordinate in common", 4, p.count(1));
        PlaneFaces q = new PlaneFaces();
        q.add(0, 16000, 1, -16000);
        q.add(-16000, 0, -16000, -1);
        q.add(2, 1, 16000, 0);
        q.add(1, 0, 1, 2);
        q.add(-1, -2, -2, -1);
        CHECK.equal("count(0) with ends that are much alike", 5, q.count(0));
        CHECK.equal("count(1) with ends that are much alike", 10, q.count(1));
        CHECK.equal("count(3) with ends that are much alike", 5, q.count(3));
    }

    private static void faces() {
        counted(2, 1, 1, 1, 2, 31, 21, 5);
        PlaneFaces p = new PlaneFaces();
        Shapes.path(p, 0, 0, 10, 0, 0, 10);
        CHECK.equal("count(2) of an open triangle", 1, p.count(2));
        p.add(0, 10, 0, 0);
        CHECK.equal("count(2) of a triangle", 2, p.count(2));
        Shapes.path(p, 0, 0, -10, 0, 0, -10, 0, 0);
        CHECK.equal("count(2) of two triangles at one end", 3, p.count(2));
        Shapes.path(p, 1, 1, 2, 1, 1, 2, 1, 1);
        CHECK.equal("count(2) with a triangle within", 4, p.count(2));
        p.add(1, 1, 0, 0);
        CHECK.equal("count(2) with a bridge to it", 4, p.count(2));
        p.add(2, 1, 10, 0);
        CHECK.equal("count(2) with another bridge to it", 5, p.count(2));
        PlaneFaces most = new PlaneFaces();
        Shapes.most(most);
        CHECK.equal("count(2), the most there can be", 40, most.count(2));
        CHECK.equal("count(5) of it", 40, most.count(5));
        int sum = 0;
        for (int face = 1; face < 40; face++) {
            sum += most.area(face);
        }
        CHECK.equal("sum of its areas", 500 * 7 * 7, sum);
        CHECK.outOfBounds("area(40) of it", () -> most.area(40));
    }

    private static void pieces() {
        counted(3, 0, 60, 1, 1, 1, 20, 6);
        PlaneFaces p = new PlaneFaces();
        Shapes.path(p, 0, 0, 10, 0, 20, 0);
        CHECK.equal("count(3) of two that hang together", 1, p.count(3));
        p.add(30, 0, 40, 0);
        CHECK.equal("count(3) with one apart", 2, p.count(3));
        p.add(20, 0, 30, 0);
        CHECK.equal("count(3) with one between", 1, p.count(3));
        p.remove(1);
        CHECK.equal("count(3) when one between is gone", 2, p.count(3));
    }

    private static void sameFace() {
        counted(4, 0, 60, 60, 0, 0, 0, 4);
        PlaneFaces p = new PlaneFaces();
        Shapes.square(p, 0, 0, 100);
        CHECK.equal("count(4) of a square", 0, p.count(4));
        Shapes.square(p, 40, 40, 20);
        CHECK.equal("count(4) of a square within", 0, p.count(4));
        p.add(0, 0, 40, 40);
        CHECK.equal("count(4) with a bridge", 1, p.count(4));
        p.add(60, 60, 100, 100);
        CHECK.equal("count(4) with two bridges, that part the face", 0, p.count(4));
        p.add(45, 45, 50, 50);
        CHECK.equal("count(4) with a segment in the inner face", 1, p.count(4));
        p.add(0, 0, -5, -5);
        CHECK.equal("count(4) with a tail in face 0", 2, p.count(4));
        p.remove(0);
        CHECK.equal("count(4) when a side is gone and the next one hangs by one end", 3, p.count(4));
    }

    private static void rounds() {
        counted(5, 0, 60, 1, 2, 31, 40, 10);
        PlaneFaces p = new PlaneFaces();
        Shapes.square(p, 0, 0, 100);
        CHECK.equal("count(5) of a square", 2, p.count(5));
        Shapes.square(p, 40, 40, 20);
        CHECK.equal("count(5) with a square within", 4, p.count(5));
        p.add(0, 0, 40, 40);
        CHECK.equal("count(5) with a bridge", 3, p.count(5));
        p.add(60, 60, 100, 100);
        CHECK.equal("count(5) with two bridges", 4, p.count(5));
        p.add(0, 0, -5, -5);
        CHECK.equal("count(5) with a tail", 4, p.count(5));
    }

    private static void anotherWhat() {
        PlaneFaces none = new PlaneFaces();
        PlaneFaces full = new PlaneFaces();
        Shapes.triangles(full);
        for (int what : new int[] {-1, -2, 6, 7, 60, Integer.MAX_VALUE, Integer.MIN_VALUE}) {
            CHECK.equal("count(" + what + ") of none", PlaneFaces.NONE, none.count(what));
            CHECK.equal("count(" + what + ") of sixty", PlaneFaces.NONE, full.count(what));
        }
    }

    private static void begins() {
        PlaneFaces p = new PlaneFaces();
        Shapes.sixty(p);
        p.remove(0);
        p.remove(59);
        p.add(-16000, 16000, 16000, -15999);
        p.add(16000, -16000, -1, -2);
        int[] half = {0, 1, 118, 119, 2, 3};
        int[] x = {-16000, 16000, 16000, -1, 10, 15};
        int[] y = {16000, -15999, -16000, -2, 0, 5};
        for (int i = 0; i < 6; i++) {
            CHECK.equal("begins(" + half[i] + ", false)", x[i], p.begins(half[i], false));
            CHECK.equal("begins(" + half[i] + ", true)", y[i], p.begins(half[i], true));
        }
    }

    private static void beginsOfNone() {
        PlaneFaces p = new PlaneFaces();
        Shapes.sixty(p);
        CHECK.equal("begins(119, false) of sixty", 595, p.begins(119, false));
        p.remove(17);
        CHECK.outOfBounds("begins(34, false) when 17 is gone", () -> p.begins(34, false));
        CHECK.outOfBounds("begins(34, true) when 17 is gone", () -> p.begins(34, true));
        CHECK.outOfBounds("begins(35, false) when 17 is gone", () -> p.begins(35, false));
        CHECK.equal("begins(33, false) when 17 is gone", 165, p.begins(33, false));
        CHECK.equal("begins(36, false) when 17 is gone", 180, p.begins(36, false));
        for (int half : NEVER) {
            CHECK.outOfBounds("begins(" + half + ", false)", () -> p.begins(half, false));
            CHECK.outOfBounds("begins(" + half + ", true)", () -> p.begins(half, true));
        }
        p.clear();
        CHECK.outOfBounds("begins(0, false) of none", () -> p.begins(0, false));
        CHECK.outOfBounds("begins(119, true) of none", () -> p.begins(119, true));
    }

    private static void next() {
        PlaneFaces p = new PlaneFaces();
        Shapes.wheel(p);
        for (int s = 0; s < 30; s++) {
            int on = (s + 1) % 30;
            CHECK.equal("next(" + 2 * s + "), outwards", 2 * ((s + 29) % 30 + 30) + 1, p.next(2 * s));
            CHECK.equal("next(" + (2 * s + 1) + "), inwards", 2 * on, p.next(2 * s + 1));
            CHECK.equal("next(" + (2 * s + 60) + "), along the rim", 2 * (on + 30), p.next(2 * s + 60));
            CHECK.equal("next(" + (2 * s + 61) + "), back along the rim", 2 * s + 1, p.next(2 * s + 61));
        }
        p.remove(30);
        CHECK.equal("next(0) when the rim is open", 2 * 59 + 1, p.next(0));
        CHECK.equal("next(2) when the rim is open", 62, p.next(2));
        p.remove(59);
        CHECK.equal("next(0) at a tail's end", 1, p.next(0));
        p.add(0, 0, 0, 15000);
        CHECK.equal("next(0) when another one is refused", 1, p.next(0));
    }

    private static void nextOfNone() {
        PlaneFaces p = new PlaneFaces();
        Shapes.sixty(p);
        CHECK.equal("next(118) of sixty", 119, p.next(118));
        p.remove(59);
        CHECK.outOfBounds("next(118) when 59 is gone", () -> p.next(118));
        CHECK.outOfBounds("next(119) when 59 is gone", () -> p.next(119));
        CHECK.equal("next(117) when 59 is gone", 116, p.next(117));
        for (int half : NEVER) {
            CHECK.outOfBounds("next(" + half + ")", () -> p.next(half));
        }
        p.clear();
        CHECK.outOfBounds("next(0) of none", () -> p.next(0));
    }

    private static void face() {
        PlaneFaces ring = new PlaneFaces();
        Shapes.ring(ring);
        PlaneFaces triangles = new PlaneFaces();
        Shapes.triangles(triangles);
        PlaneFaces apart = new PlaneFaces();
        Shapes.sixty(apart);
        for (int h = 0; h < 120; h++) {
            CHECK.equal("face(" + h + ") of the ring, clockwise", h % 2, ring.face(h));
            CHECK.equal("face(" + h + ") of the triangles", (h / 6 + 1 + h % 2) % 21, triangles.face(h));
            CHECK.equal("face(" + h + ") of sixty apart", 0, apart.face(h));
        }
        PlaneFaces p = new PlaneFaces();
        Shapes.medley(p);
        CHECK.equal("face of a tail within", 2, p.face(16));
        CHECK.equal("face of a tail within, back", 2, p.face(17));
        CHECK.equal("face of a tail outside", 0, p.face(18));
        CHECK.equal("face of a tail outside, back", 0, p.face(19));
        CHECK.equal("face of a segment by itself within", 2, p.face(34));
        CHECK.equal("face of a segment by itself within, back", 2, p.face(35));
        p.remove(4);
        CHECK.equal("face of a tail when the square is open", 0, p.face(16));
        CHECK.equal("face of a segment by itself when the square is open", 0, p.face(35));
        CHECK.equal("face of the inner square when the outer one is open", 1, p.face(0));
        CHECK.equal("face around it when the outer one is open", 0, p.face(1));
    }

    private static void faceOfNone() {
        PlaneFaces p = new PlaneFaces();
        Shapes.triangles(p);
        CHECK.equal("face(119) of the triangles", 0, p.face(119));
        p.remove(0);
        CHECK.outOfBounds("face(0) when 0 is gone", () -> p.face(0));
        CHECK.outOfBounds("face(1) when 0 is gone", () -> p.face(1));
        CHECK.equal("face(2) when 0 is gone", 1, p.face(2));
        for (int half : NEVER) {
            CHECK.outOfBounds("face(" + half + ")", () -> p.face(half));
        }
        p.clear();
        CHECK.outOfBounds("face(0) of none", () -> p.face(0));
    }

    private static void piece() {
        PlaneFaces triangles = new PlaneFaces();
        Shapes.triangles(triangles);
        PlaneFaces star = new PlaneFaces();
        Shapes.star(star);
        for (int h = 0; h < 120; h++) {
            CHECK.equal("piece(" + h + ") of the triangles", h / 6, triangles.piece(h));
            CHECK.equal("piece(" + h + ") of the star", 0, star.piece(h));
        }
        PlaneFaces p = new PlaneFaces();
        Shapes.medley(p);
        int[] due = {0, 0, 0, 0, 1, 1, 1, 1, 1, 1, 2, 2, 2, 3, 3, 3, 3, 4, -1, 5};
        for (int h = 0; h < 40; h++) {
            if (h / 2 != 18) {
                CHECK.equal("piece(" + h + ") of the medley", due[h / 2], p.piece(h));
            }
        }
        p.add(110, 105, 200, 10);
        CHECK.equal("piece of the square apart when it is joined", 1, p.piece(26));
        CHECK.equal("piece of the segment that joins it", 1, p.piece(36));
        CHECK.equal("piece of the last one then", 4, p.piece(39));
    }

    private static void pieceOfNone() {
        PlaneFaces p = new PlaneFaces();
        Shapes.sixty(p);
        CHECK.equal("piece(119) of sixty", 59, p.piece(119));
        p.remove(58);
        CHECK.outOfBounds("piece(116) when 58 is gone", () -> p.piece(116));
        CHECK.outOfBounds("piece(117) when 58 is gone", () -> p.piece(117));
        CHECK.equal("piece(118) when 58 is gone", 58, p.piece(118));
        for (int half : NEVER) {
            CHECK.outOfBounds("piece(" + half + ")", () -> p.piece(half));
        }
        p.clear();
        CHECK.outOfBounds("piece(0) of none", () -> p.piece(0));
    }
}
