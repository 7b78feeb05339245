import java.util.function.Consumer;
import java.util.function.Function;

/** Boundary cases in the document's head and terms, on which all promises lean: a test for each such sentence. */
public final class TermsBoundaryTest {
    private static final Check CHECK = new Check("TermsBoundaryTest");
    private static final int[] TOO_FAR = {16001, -16001, Integer.MAX_VALUE, Integer.MIN_VALUE};

    public static void main(String[] args) {
        CHECK.sentence("An object is used for at most 512 calls", TermsBoundaryTest::call512);
        CHECK.sentence("POINTS have whole coordinates, -16,000 .. 16,000", TermsBoundaryTest::coordinatesInBounds);
        CHECK.sentence("IllegalArgument: also where a coordinate is out of bounds", TermsBoundaryTest::coordinatesOut);
        CHECK.sentence("SEGMENTS are numbered 0 .. 59 (the least that is free)", TermsBoundaryTest::numbers);
        CHECK.sentence("each has two different ends", TermsBoundaryTest::differentEnds);
        CHECK.sentence("2 s from its first end to its second, and 2 s + 1 back", TermsBoundaryTest::halves);
        CHECK.sentence("To the LEFT of a half", TermsBoundaryTest::left);
        CHECK.sentence("the first one if one turns from the way back clockwise", TermsBoundaryTest::clockwise);
        CHECK.sentence("the way back itself, if there is no other one", TermsBoundaryTest::wayBack);
        CHECK.sentence("Halves that follow one another are a ROUND", TermsBoundaryTest::rounds);
        CHECK.sentence("PIECES hang together by their ends", TermsBoundaryTest::hangTogether);
        CHECK.sentence("PIECES are numbered from 0 on, by their least segments", TermsBoundaryTest::pieceNumbers);
        CHECK.sentence("one can go without meeting a segment", TermsBoundaryTest::parts);
        CHECK.sentence("FACE 0 is the one that has no end", TermsBoundaryTest::faceZero);
        CHECK.sentence("from 1 on, by the least half to whose LEFT they lie", TermsBoundaryTest::faceNumbers);
        CHECK.sentence("All the ROUNDS to whose LEFT a face lies are its borders", TermsBoundaryTest::allRounds);
        CHECK.sentence("A call that throws changes nothing", TermsBoundaryTest::throwsChangesNothing);
        CHECK.sentence("the first one wins", TermsBoundaryTest::firstWins);
        CHECK.sentence("IndexOutOfBounds: there is no such half", TermsBoundaryTest::noSuchHalf);
        CHECK.sentence("IndexOutOfBounds: there is no such face", TermsBoundaryTest::noSuchFace);
        CHECK.sentence("IndexOutOfBounds: there is no such piece", TermsBoundaryTest::noSuchPiece);
        CHECK.end();
    }

    private static void call512() {
        PlaneFaces changed = new PlaneFaces();
        for (int i = 0; i < 255; i++) {
            CHECK.equal("add, call " + (2 * i + 1), 0, changed.add(i, 0, i, 1));
            CHECK.equal("remove, call " + (2 * i + 2), true, changed.remove(0));
        }
        CHECK.equal("add, call 511", 0, changed.add(0, 0, 1, 1));
        CHECK.equal("count(0), call 512", 1, changed.count(0));
        PlaneFaces full = new PlaneFaces();
        Shapes.triangles(full);
        for (int call = 61; call <= 512; call++) {
            CHECK.equal("across, call " + call, 20, full.across(0, 1));
        }
        PlaneFaces refused = new PlaneFaces();
        Shapes.sixty(refused);
        for (int call = 61; call < 512; call++) {
            CHECK.illegalState("add, call " + call, () -> refused.add(0, 9, 1, 9));
        }
        CHECK.equal("clear, call 512", 60, refused.clear());
    }

    private static void coordinatesInBounds() {
        for (int bound : new int[] {16000, -16000}) {
            for (int at = 0; at < 4; at++) {
                int[] e = {0, 0, 1, 1};
                e[at] = bound;
                PlaneFaces p = new PlaneFaces();
                CHECK.equal("add with " + bound + " at " + at, 0, p.add(e[0], e[1], e[2], e[3]));
                CHECK.equal("begins with " + bound + " at " + at, bound, p.begins(at / 2, at % 2 == 1));
            }
            PlaneFaces p = new PlaneFaces();
            CHECK.equal("locate(" + bound + ", 0)", 0, p.locate(bound, 0));
            CHECK.equal("locate(0, " + bound + ")", 0, p.locate(0, bound));
            CHECK.equal("locate(" + bound + ", " + bound + ")", 0, p.locate(bound, bound));
            CHECK.equal("above(" + bound + ", 0)", PlaneFaces.NONE, p.above(bound, 0));
            CHECK.equal("above(0, " + bound + ")", PlaneFaces.NONE, p.above(0, bound));
            CHECK.equal("above(" + bound + ", " + -bound + ")", PlaneFaces.NONE, p.above(bound, -bound));
        }
    }

    private static void coordinatesOut() {
        PlaneFaces p = new PlaneFaces();
        for (int far : TOO_FAR) {
            for (int at = 0; at < 4; at++) {
                int[] e = {0, 0, 1, 1};
                e[at] = far;
                CHECK.illegalArgument("add with " + far + " at " + at, () -> p.add(e[0], e[1], e[2], e[3]));
            }
            CHECK.illegalArgument("add with " + far + " everywhere", () -> p.add(far, far, far, far));
            CHECK.illegalArgument("locate(" + far + ", 0)", () -> p.locate(far, 0));
            CHECK.illegalArgument("locate(0, " + far + ")", () -> p.locate(0, far));
            CHECK.illegalArgument("above(" + far + ", 0)", () -> p.above(far, 0));
            CHECK.illegalArgument("above(0, " + far + ")", () -> p.above(0, far));
        }
    }

    private static void numbers() {
        PlaneFaces p = new PlaneFaces();
        for (int s = 0; s < 60; s++) {
            CHECK.equal("add " + s, s, p.add(10 * s, 0, 10 * s + 5, 5));
        }
        p.remove(59);
        CHECK.equal("add when 59 is free", 59, p.add(590, 0, 595, 5));
        p.remove(0);
        CHECK.equal("add when 0 is free", 0, p.add(0, 0, 5, 5));
        p.remove(40);
        p.remove(7);
        p.remove(23);
        CHECK.equal("add when 7, 23 and 40 are free", 7, p.add(70, 0, 75, 5));
        CHECK.equal("add when 23 and 40 are free", 23, p.add(230, 0, 235, 5));
        CHECK.equal("add when 40 is free", 40, p.add(400, 0, 405, 5));
        p.clear();
        CHECK.equal("add when all are free", 0, p.add(0, 0, 5, 5));
    }

    private static void differentEnds() {
        PlaneFaces p = new PlaneFaces();
        CHECK.equal("add when only x differs, by 1", 0, p.add(5, 5, 6, 5));
        CHECK.equal("add when only y differs, by 1", 1, p.add(5, 5, 5, 4));
        CHECK.equal("add when x and y are exchanged", 2, p.add(7, 8, 8, 7));
        CHECK.illegalArgument("add of a free place", () -> p.add(20, 20, 20, 20));
        CHECK.illegalArgument("add of (0, 0)", () -> p.add(0, 0, 0, 0));
        CHECK.illegalArgument("add of an end", () -> p.add(5, 5, 5, 5));
        CHECK.illegalArgument("add of a corner of the bounds", () -> p.add(16000, -16000, 16000, -16000));
    }

    private static void halves() {
        PlaneFaces p = new PlaneFaces();
        Shapes.sixty(p);
        for (int s : new int[] {0, 1, 58, 59}) {
            CHECK.equal("x of half " + 2 * s, 10 * s, p.begins(2 * s, false));
            CHECK.equal("y of half " + 2 * s, 0, p.begins(2 * s, true));
            CHECK.equal("x of half " + (2 * s + 1), 10 * s + 5, p.begins(2 * s + 1, false));
            CHECK.equal("y of half " + (2 * s + 1), 5, p.begins(2 * s + 1, true));
        }
    }

    /** Around each of the eight ways, on either side of a half. */
    private static void left() {
        int[] octagon = {2, 0, 4, 0, 6, 2, 6, 4, 4, 6, 2, 6, 0, 4, 0, 2, 2, 0};
        PlaneFaces p = new PlaneFaces();
        Shapes.path(p, octagon);
        PlaneFaces q = new PlaneFaces();
        for (int i = octagon.length - 4; i >= 0; i -= 2) {
            Shapes.path(q, octagon[i + 2], octagon[i + 3], octagon[i], octagon[i + 1]);
        }
        for (int s = 0; s < 8; s++) {
            CHECK.equal("left of side " + s + " counterclockwise", 1, p.face(2 * s));
            CHECK.equal("left of side " + s + " counterclockwise, back", 0, p.face(2 * s + 1));
            CHECK.equal("left of side " + s + " clockwise", 0, q.face(2 * s));
            CHECK.equal("left of side " + s + " clockwise, back", 1, q.face(2 * s + 1));
        }
    }

    private static void clockwise() {
        PlaneFaces star = new PlaneFaces();
        Shapes.star(star);
        int[] spokeTo = new int[60];
        for (int s = 0; s < 60; s++) {
            spokeTo[7 * s % 60] = s;
        }
        for (int i = 0; i < 60; i++) {
            int s = spokeTo[i];
            CHECK.equal("next inwards from rim point " + i, 2 * spokeTo[(i + 1) % 60], star.next(2 * s + 1));
        }
        PlaneFaces narrow = new PlaneFaces();
        narrow.add(-16000, -16000, 16000, 16000);
        narrow.add(-16000, -16000, 15999, 16000);
        narrow.add(-16000, -16000, 16000, 15999);
        CHECK.equal("next of the middle one of three by a hair", 4, narrow.next(1));
        CHECK.equal("next of the left one of three by a hair", 0, narrow.next(3));
        CHECK.equal("next of the right one of three by a hair", 2, narrow.next(5));
        PlaneFaces hair = new PlaneFaces();
        hair.add(0, 0, 15999, 15998);
        hair.add(0, 0, 16000, 15999);
        hair.add(0, 0, 0, 1);
        CHECK.equal("next with one to the left by the least angle there is", 4, hair.next(1));
        CHECK.equal("next with one to the right by the least angle there is", 0, hair.next(3));
        CHECK.equal("next with two by the least angle there is", 2, hair.next(5));
        PlaneFaces straight = new PlaneFaces();
        straight.add(-16000, 0, 0, 0);
        straight.add(0, 0, 16000, 0);
        CHECK.equal("next straight on", 2, straight.next(0));
        straight.add(0, 0, 16000, -1);
        CHECK.equal("next with one a hair to the right of straight on", 2, straight.next(0));
        straight.add(0, 0, 16000, 1);
        CHECK.equal("next with one a hair to the left of straight on", 6, straight.next(0));
        straight.add(0, 0, -16000, -1);
        CHECK.equal("next with one a hair to the right of the way back", 6, straight.next(0));
        straight.add(0, 0, -16000, 1);
        CHECK.equal("next with one a hair to the left of the way back", 10, straight.next(0));
    }

    private static void wayBack() {
        PlaneFaces p = new PlaneFaces();
        p.add(0, 0, 10, 0);
        CHECK.equal("next(0) of one by itself", 1, p.next(0));
        CHECK.equal("next(1) of one by itself", 0, p.next(1));
        p.add(11, 0, 10, 1);
        CHECK.equal("next(0) with ends beside", 1, p.next(0));
        p.add(10, 0, 5, 5);
        CHECK.equal("next(0) with another one", 4, p.next(0));
        CHECK.equal("next(1) with another one at the other end", 0, p.next(1));
        CHECK.equal("next(4) at the tail's end", 5, p.next(4));
        p.remove(2);
        CHECK.equal("next(0) when the other one is gone", 1, p.next(0));
        PlaneFaces full = new PlaneFaces();
        Shapes.sixty(full);
        CHECK.equal("next(118)", 119, full.next(118));
        CHECK.equal("next(119)", 118, full.next(119));
    }

    private static void rounds() {
        PlaneFaces ring = new PlaneFaces();
        Shapes.ring(ring);
        for (int s = 0; s < 60; s++) {
            CHECK.equal("next on the ring of " + 2 * s, 2 * ((s + 1) % 60), ring.next(2 * s));
            CHECK.equal("next on the ring of " + (2 * s + 1), 2 * ((s + 59) % 60) + 1, ring.next(2 * s + 1));
        }
        CHECK.equal("rounds of the ring", 2, ring.count(5));
        PlaneFaces star = new PlaneFaces();
        Shapes.star(star);
        CHECK.equal("rounds of the star", 1, star.count(5));
        CHECK.equal("halves of its round", 120, star.border(0, 1));
    }

    private static void hangTogether() {
        PlaneFaces p = new PlaneFaces();
        p.add(0, 0, 10, 0);
        p.add(20, 0, 30, 0);
        p.add(11, 0, 19, 0);
        CHECK.equal("pieces a step apart", 3, p.count(3));
        p.add(10, 0, 11, 0);
        CHECK.equal("pieces when two are joined", 2, p.count(3));
        p.add(20, 0, 19, 0);
        CHECK.equal("pieces when all are joined", 1, p.count(3));
        p.remove(2);
        CHECK.equal("pieces when the middle is gone", 2, p.count(3));
        PlaneFaces q = new PlaneFaces();
        Shapes.square(q, 0, 0, 10);
        Shapes.path(q, 5, 1, 9, 5, 5, 9, 1, 5, 5, 1);
        CHECK.equal("pieces within one another", 2, q.count(3));
        q.add(5, 1, 0, 0);
        CHECK.equal("pieces within one another with a bridge", 1, q.count(3));
        PlaneFaces star = new PlaneFaces();
        Shapes.star(star);
        CHECK.equal("pieces of sixty at one end", 1, star.count(3));
    }

    private static void pieceNumbers() {
        PlaneFaces p = new PlaneFaces();
        for (int s = 0; s < 60; s++) {
            p.add(10 * s, 0, 10 * s, s < 59 ? 5 : 6);
        }
        for (int s = 0; s < 60; s++) {
            CHECK.equal("piece of segment " + s, s, p.piece(2 * s));
        }
        p.remove(30);
        CHECK.equal("piece of segment 29 without 30", 29, p.piece(58));
        CHECK.equal("piece of segment 31 without 30", 30, p.piece(62));
        p.add(590, 6, 0, 5);
        CHECK.equal("piece of the segment that joins 0 and 59", 0, p.piece(60));
        CHECK.equal("piece of segment 59 when 30 joins it to 0", 0, p.piece(118));
        CHECK.equal("piece of segment 58", 57, p.piece(116));
        p.remove(0);
        CHECK.equal("piece of segment 1 without 0", 0, p.piece(2));
        CHECK.equal("piece of segment 30 without 0", 29, p.piece(60));
        CHECK.equal("piece of segment 59 without 0", 29, p.piece(119));
        CHECK.equal("piece of segment 31 without 0", 30, p.piece(63));
    }

    private static void parts() {
        PlaneFaces p = new PlaneFaces();
        Shapes.path(p, 0, 0, 100, 0, 100, 100, 0, 100, 0, 0);
        p.add(0, 0, 99, 99);
        CHECK.equal("a wall short of the far corner", 2, p.count(2));
        CHECK.equal("to the left of a wall short of it", 1, p.face(8));
        CHECK.equal("to the right of a wall short of it", 1, p.face(9));
        p.add(99, 99, 100, 100);
        CHECK.equal("a wall to the far corner", 3, p.count(2));
        CHECK.equal("to the right of it", 1, p.locate(2, 1));
        CHECK.equal("to the left of it", 2, p.locate(1, 2));
    }

    private static void faceZero() {
        PlaneFaces p = new PlaneFaces();
        CHECK.equal("locate with no segment", 0, p.locate(0, 0));
        Shapes.path(p, 0, 0, 0, 10, 10, 10, 10, 0, 0, 0);
        CHECK.equal("face(0) outside", 0, p.face(0));
        CHECK.equal("face(1) within", 1, p.face(1));
        Shapes.square(p, -16000, -16000, 32000);
        CHECK.equal("face of the outermost half", 0, p.face(9));
        CHECK.equal("face(0) within the bounds' frame", 1, p.face(0));
        CHECK.equal("locate outside the first square", 1, p.locate(11, 11));
        CHECK.equal("area of face 0", 0, p.area(0));
        p.remove(7);
        CHECK.equal("locate when the frame is open", 0, p.locate(11, 11));
    }

    private static void faceNumbers() {
        PlaneFaces p = new PlaneFaces();
        p.add(300, 0, 300, 10);
        Shapes.path(p, 40, 40, 40, 60, 60, 60, 60, 40, 40, 40);
        Shapes.square(p, 200, 0, 10);
        Shapes.square(p, 0, 0, 100);
        CHECK.equal("face 0 has the least halves of all", 0, p.face(0));
        CHECK.equal("between the squares, by half 2 of the inner one", 1, p.face(2));
        CHECK.equal("between the squares, by the outer one", 1, p.face(18));
        CHECK.equal("within the inner square", 2, p.face(3));
        CHECK.equal("the square apart", 3, p.face(10));
        CHECK.equal("faces", 4, p.count(2));
        p.remove(1);
        p.add(40, 60, 40, 40);
        CHECK.equal("within the inner square, by half 2 the other way", 1, p.face(2));
        CHECK.equal("between the squares, then", 2, p.face(3));
        p.remove(0);
        p.add(45, 45, 46, 46);
        CHECK.equal("within the inner square, by a segment in it", 1, p.face(0));
        p.remove(0);
        p.add(5, 5, 6, 6);
        CHECK.equal("between the squares, by a segment in it", 1, p.face(0));
        CHECK.equal("within the inner square, then", 2, p.face(2));
        p.remove(0);
        p.add(0, 0, 5, 5);
        CHECK.equal("between the squares, by a tail in it", 1, p.face(0));
        p.remove(9);
        CHECK.equal("the square within when the outer one is open", 1, p.face(2));
        CHECK.equal("the square apart, then", 2, p.face(10));
    }

    private static void allRounds() {
        PlaneFaces p = new PlaneFaces();
        Shapes.medley(p);
        int[] rounds = {3, 2, 3, 1, 1};
        int[] halves = {4 + 2 + 4 + 2, 4 + 3, 4 + 2 + 4 + 2, 3, 4};
        for (int face = 0; face < 5; face++) {
            CHECK.equal("rounds of face " + face, rounds[face], p.border(face, 0));
            CHECK.equal("halves of face " + face, halves[face], p.border(face, 1));
        }
        CHECK.equal("rounds in all", 10, p.count(5));
    }

    /** Asks as if nothing had been, before and after the call that throws. */
    private static void unchanged(String call, Consumer<PlaneFaces> before, Function<PlaneFaces, Object> thrower) {
        String due = Snapshot.of(before);
        Object[] thrown = new Object[1];
        String early = Snapshot.of(p -> {
            before.accept(p);
            thrown[0] = Check.answer(() -> thrower.apply(p));
        });
        String late = Snapshot.of(p -> {
            before.accept(p);
            p.count(2);
            Check.answer(() -> thrower.apply(p));
            Check.answer(() -> thrower.apply(p));
        });
        CHECK.equal(call + " throws", true, String.valueOf(thrown[0]).endsWith("Exception"));
        CHECK.equal("all answers after " + call, due, early);
        CHECK.equal("all answers after count and twice " + call, due, late);
        PlaneFaces then = new PlaneFaces();
        before.accept(then);
        int segments = then.count(0);
        Check.answer(() -> thrower.apply(then));
        CHECK.equal("clear after " + call, segments, then.clear());
    }

    private static void throwsChangesNothing() {
        Consumer<PlaneFaces> medley = Shapes::medley;
        Consumer<PlaneFaces> full = Shapes::triangles;
        unchanged("add out of bounds", medley, p -> p.add(0, 300, 0, 16001));
        unchanged("add of a place", medley, p -> p.add(300, 300, 300, 300));
        unchanged("add of a place with none before", p -> { }, p -> p.add(0, 0, 0, 0));
        unchanged("add of the 61st", full, p -> p.add(5000, 0, 5000, 1));
        unchanged("begins of no half", medley, p -> p.begins(36, true));
        unchanged("next of no half", medley, p -> p.next(37));
        unchanged("face of no half", medley, p -> p.face(40));
        unchanged("piece of no half", medley, p -> p.piece(120));
        unchanged("around of no piece", medley, p -> p.around(6));
        unchanged("area of no face", medley, p -> p.area(5));
        unchanged("border of no face", medley, p -> p.border(-1, 2));
        unchanged("locate out of bounds", medley, p -> p.locate(-16001, 0));
        unchanged("above out of bounds", medley, p -> p.above(0, 16001));
        unchanged("across from no face", medley, p -> p.across(5, 0));
        unchanged("across to no face", full, p -> p.across(0, 21));
        PlaneFaces p = new PlaneFaces();
        Shapes.medley(p);
        CHECK.illegalArgument("add of a place", () -> p.add(300, 300, 300, 300));
        CHECK.equal("add after it takes the free number", 18, p.add(300, 300, 301, 300));
        CHECK.illegalArgument("add out of bounds", () -> p.add(16001, 300, 300, 300));
        CHECK.equal("add after it takes the next number", 20, p.add(300, 400, 301, 400));
    }

    private static void firstWins() {
        PlaneFaces p = new PlaneFaces();
        Shapes.sixty(p);
        CHECK.illegalState("add as the 61st", () -> p.add(0, 100, 1, 101));
        CHECK.illegalArgument("add of a place as the 61st", () -> p.add(0, 100, 0, 100));
        CHECK.illegalArgument("add of an end as the 61st", () -> p.add(0, 0, 0, 0));
        for (int far : TOO_FAR) {
            CHECK.illegalArgument("add with ax " + far + " as the 61st", () -> p.add(far, 100, 1, 101));
            CHECK.illegalArgument("add with ay " + far + " as the 61st", () -> p.add(0, far, 1, 101));
            CHECK.illegalArgument("add with bx " + far + " as the 61st", () -> p.add(0, 100, far, 101));
            CHECK.illegalArgument("add with by " + far + " as the 61st", () -> p.add(0, 100, 1, far));
        }
    }

    private static void noHalf(String why, PlaneFaces p, int half) {
        CHECK.outOfBounds("begins(" + half + ", false) " + why, () -> p.begins(half, false));
        CHECK.outOfBounds("begins(" + half + ", true) " + why, () -> p.begins(half, true));
        CHECK.outOfBounds("next(" + half + ") " + why, () -> p.next(half));
        CHECK.outOfBounds("face(" + half + ") " + why, () -> p.face(half));
        CHECK.outOfBounds("piece(" + half + ") " + why, () -> p.piece(half));
    }

    private static void noSuchHalf() {
        int[] never = {-1, -2, -3, 120, 121, Integer.MAX_VALUE, Integer.MIN_VALUE};
        PlaneFaces p = new PlaneFaces();
        noHalf("with no segment", p, 0);
        noHalf("with no segment", p, 1);
        p.add(0, 0, 5, 0);
        p.add(5, 0, 5, 5);
        noHalf("behind the last", p, 4);
        noHalf("behind the last", p, 5);
        p.add(0, -5, 5, 5);
        noHalf("of a refused segment", p, 4);
        p.remove(0);
        noHalf("of a removed segment", p, 0);
        noHalf("of a removed segment", p, 1);
        CHECK.equal("next(2) when 0 is gone", 3, p.next(2));
        p.clear();
        noHalf("of a cleared segment", p, 2);
        PlaneFaces full = new PlaneFaces();
        Shapes.sixty(full);
        for (int half : never) {
            noHalf("with no segment", p, half);
            noHalf("with sixty", full, half);
        }
    }

    private static void noFace(String why, PlaneFaces p, int face) {
        CHECK.outOfBounds("area(" + face + ") " + why, () -> p.area(face));
        for (int what = -1; what <= 4; what++) {
            int asked = what;
            CHECK.outOfBounds("border(" + face + ", " + what + ") " + why, () -> p.border(face, asked));
        }
        CHECK.outOfBounds("across(" + face + ", 0) " + why, () -> p.across(face, 0));
        CHECK.outOfBounds("across(0, " + face + ") " + why, () -> p.across(0, face));
        CHECK.outOfBounds("across(" + face + ", " + face + ") " + why, () -> p.across(face, face));
    }

    private static void noSuchFace() {
        PlaneFaces p = new PlaneFaces();
        noFace("with no segment", p, 1);
        Shapes.square(p, 0, 0, 10);
        CHECK.equal("area(1)", 200, p.area(1));
        noFace("with a square", p, 2);
        p.remove(3);
        noFace("with an open square", p, 1);
        PlaneFaces most = new PlaneFaces();
        Shapes.wheel(most);
        CHECK.equal("border(30, 0) of the wheel", 1, most.border(30, 0));
        noFace("of the wheel", most, 31);
        most.clear();
        noFace("of the cleared wheel", most, 30);
        for (int face : new int[] {-1, -2, 60, 120, 121, 122, Integer.MAX_VALUE, Integer.MIN_VALUE}) {
            noFace("with an open square", p, face);
        }
    }

    private static void noPiece(String why, PlaneFaces p, int piece) {
        CHECK.outOfBounds("around(" + piece + ") " + why, () -> p.around(piece));
    }

    private static void noSuchPiece() {
        PlaneFaces p = new PlaneFaces();
        noPiece("with no segment", p, 0);
        p.add(0, 0, 5, 0);
        p.add(0, 0, 0, 5);
        CHECK.equal("around(0) of two that hang together", 0, p.around(0));
        noPiece("of two that hang together", p, 1);
        p.remove(0);
        CHECK.equal("around(0) when segment 0 is gone", 0, p.around(0));
        noPiece("when segment 0 is gone", p, 1);
        p.clear();
        noPiece("when all are gone", p, 0);
        PlaneFaces full = new PlaneFaces();
        Shapes.sixty(full);
        CHECK.equal("around(59) of sixty", 0, full.around(59));
        for (int piece : new int[] {-1, -2, 60, 61, Integer.MAX_VALUE, Integer.MIN_VALUE}) {
            noPiece("of sixty", full, piece);
            noPiece("of none", p, piece);
        }
    }
}
