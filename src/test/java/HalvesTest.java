/** Promises 5 to 9: count, begins, next, face, piece. */
public final class HalvesTest {
    private static final Check CHECK = new Check("HalvesTest");

    public static void main(String[] args) {
        counts();
        begins();
        nextAtOneEnd();
        nextAroundAPoint();
        faceLeft();
        faceNumbers();
        pieces();
        noSuchHalf();
        CHECK.end();
    }

    private static void counted(String what, PlaneFaces p, int... due) {
        for (int i = 0; i < due.length; i++) {
            CHECK.equal("count(" + i + ") of " + what, due[i], p.count(i));
        }
    }

    private static void counts() {
        PlaneFaces p = new PlaneFaces();
        p.add(0, 0, 10, 0);
        counted("one segment", p, 1, 2, 1, 1, 1, 1);
        p.add(10, 0, 5, 8);
        counted("two sides", p, 2, 3, 1, 1, 2, 1);
        p.add(5, 8, 0, 0);
        counted("a triangle", p, 3, 3, 2, 1, 0, 2);
        p.add(5, 8, 5, 20);
        counted("a triangle with a tail", p, 4, 4, 2, 1, 1, 2);
        p.add(5, 3, 5, 4);
        counted("and a segment within", p, 5, 6, 2, 2, 2, 3);
        p.add(4, 2, 0, 0);
        counted("and a tail within", p, 6, 7, 2, 2, 3, 3);
        Shapes.path(p, 5, 20, 0, 30, 10, 30, 5, 20);
        counted("and two triangles with a bridge", p, 9, 9, 3, 2, 3, 4);
        for (int what : new int[] {-1, 6, 100, Integer.MIN_VALUE, Integer.MAX_VALUE}) {
            CHECK.equal("count(" + what + ")", PlaneFaces.NONE, p.count(what));
        }
    }

    private static void begins() {
        PlaneFaces p = new PlaneFaces();
        p.add(1, -2, -3, 4);
        p.add(-16000, 16000, 16000, 15999);
        int[] x = {1, -3, -16000, 16000};
        int[] y = {-2, 4, 16000, 15999};
        for (int half = 0; half < 4; half++) {
            CHECK.equal("begins(" + half + ", false)", x[half], p.begins(half, false));
            CHECK.equal("begins(" + half + ", true)", y[half], p.begins(half, true));
        }
    }

    private static void nextAtOneEnd() {
        PlaneFaces p = new PlaneFaces();
        p.add(0, 0, 10, 0);
        CHECK.equal("next(0) of one segment", 1, p.next(0));
        CHECK.equal("next(1) of one segment", 0, p.next(1));
        p.add(20, 0, 10, 0);
        CHECK.equal("next(0) straight on", 3, p.next(0));
        CHECK.equal("next(2) straight on", 1, p.next(2));
        CHECK.equal("next(3) at its end", 2, p.next(3));
    }

    /** Twelve halves leave the middle, drawn in no order; clockwise from one the next one is due. */
    private static void nextAroundAPoint() {
        int[][] clockwise = {{0, 9}, {1, 9}, {9, 9}, {9, 1}, {9, 0}, {9, -9},
            {0, -9}, {-1, -9}, {-9, -9}, {-9, -1}, {-9, 0}, {-9, 9}};
        int[] order = {7, 2, 11, 0, 5, 9, 4, 1, 10, 3, 8, 6};
        PlaneFaces p = new PlaneFaces();
        int[] segmentOf = new int[12];
        for (int s = 0; s < 12; s++) {
            segmentOf[order[s]] = s;
            p.add(0, 0, 100 * clockwise[order[s]][0], 100 * clockwise[order[s]][1]);
        }
        for (int i = 0; i < 12; i++) {
            int s = segmentOf[i];
            CHECK.equal("next of spoke " + i + " inwards", 2 * segmentOf[(i + 1) % 12], p.next(2 * s + 1));
            CHECK.equal("next of spoke " + i + " outwards", 2 * s + 1, p.next(2 * s));
        }
    }

    private static void faceLeft() {
        PlaneFaces p = new PlaneFaces();
        Shapes.square(p, 0, 0, 10);
        for (int half = 0; half < 8; half++) {
            CHECK.equal("face(" + half + ") of a square", half % 2 == 0 ? 1 : 0, p.face(half));
        }
        PlaneFaces q = new PlaneFaces();
        Shapes.path(q, 0, 0, 0, 10, 10, 10, 10, 0, 0, 0);
        for (int half = 0; half < 8; half++) {
            CHECK.equal("face(" + half + ") of a square clockwise", half % 2 == 0 ? 0 : 1, q.face(half));
        }
    }

    /** The numbers go by the least half of all the rounds, those of the pieces within too. */
    private static void faceNumbers() {
        PlaneFaces p = new PlaneFaces();
        Shapes.square(p, 40, 40, 10);
        Shapes.square(p, 200, 0, 10);
        Shapes.square(p, 0, 0, 100);
        CHECK.equal("face(0), the small square", 1, p.face(0));
        CHECK.equal("face(1), between the squares", 2, p.face(1));
        CHECK.equal("face(16), between the squares", 2, p.face(16));
        CHECK.equal("face(8), the square apart", 3, p.face(8));
        CHECK.equal("face(9), the face without end", 0, p.face(9));
        CHECK.equal("face(17), the face without end", 0, p.face(17));
        p.remove(0);
        CHECK.equal("face(2) when the small square is open", 1, p.face(2));
        CHECK.equal("face(8) when the small square is open", 2, p.face(8));
        CHECK.equal("face(16) when the small square is open", 1, p.face(16));
    }

    private static void pieces() {
        PlaneFaces p = new PlaneFaces();
        p.add(0, 0, 10, 0);
        p.add(50, 0, 60, 0);
        p.add(20, 0, 30, 0);
        p.add(60, 0, 60, 9);
        int[] apart = {0, 1, 2, 1};
        for (int half = 0; half < 8; half++) {
            CHECK.equal("piece(" + half + ")", apart[half / 2], p.piece(half));
        }
        p.add(20, 0, 10, 0);
        int[] joined = {0, 1, 0, 1, 0};
        for (int half = 0; half < 10; half++) {
            CHECK.equal("piece(" + half + ") when two are joined", joined[half / 2], p.piece(half));
        }
        p.remove(0);
        int[] first = {-1, 0, 1, 0, 1};
        for (int half = 2; half < 10; half++) {
            CHECK.equal("piece(" + half + ") without segment 0", first[half / 2], p.piece(half));
        }
    }

    private static void noSuchHalf() {
        PlaneFaces p = new PlaneFaces();
        Shapes.sixty(p);
        p.remove(30);
        for (int half : new int[] {-1, -2, 60, 61, 120, 121, Integer.MIN_VALUE, Integer.MAX_VALUE}) {
            CHECK.outOfBounds("begins(" + half + ", true)", () -> p.begins(half, true));
            CHECK.outOfBounds("begins(" + half + ", false)", () -> p.begins(half, false));
            CHECK.outOfBounds("next(" + half + ")", () -> p.next(half));
            CHECK.outOfBounds("face(" + half + ")", () -> p.face(half));
            CHECK.outOfBounds("piece(" + half + ")", () -> p.piece(half));
        }
        CHECK.equal("next(119)", 118, p.next(119));
        CHECK.equal("piece(119)", 58, p.piece(119));
    }
}
