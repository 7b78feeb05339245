/** Boundary cases of promises 13 and 14 (locate, above): a test for each sentence that names one. */
public final class PlacesBoundaryTest {
    private static final Check CHECK = new Check("PlacesBoundaryTest");
    private static final int[] TOO_FAR = {16001, -16001, Integer.MAX_VALUE, Integer.MIN_VALUE};

    public static void main(String[] args) {
        CHECK.sentence("13: The face in which a place lies, hard by segments", PlacesBoundaryTest::hardBy);
        CHECK.sentence("13: The face in which a place lies, in line with ends", PlacesBoundaryTest::inLineWithEnds);
        CHECK.sentence("13: The face in which a place lies, pieces within pieces", PlacesBoundaryTest::withinPieces);
        CHECK.sentence("13: -2 less s if it lies on segment s", PlacesBoundaryTest::onSegment);
        CHECK.sentence("13: but at no end", PlacesBoundaryTest::atNoEnd);
        CHECK.sentence("13: POINT less the half that begins there, if it is an end", PlacesBoundaryTest::anEnd);
        CHECK.sentence("13: the least half that begins there", PlacesBoundaryTest::leastHalf);
        CHECK.sentence("13: IllegalArgument", PlacesBoundaryTest::locateOut);
        CHECK.sentence("14: The segment that one meets first going straight up", PlacesBoundaryTest::meetsFirst);
        CHECK.sentence("14: straight up, from the ends' places too", PlacesBoundaryTest::underEnds);
        CHECK.sentence("14: not what is at the place", PlacesBoundaryTest::atThePlace);
        CHECK.sentence("14: what it has above the place counts", PlacesBoundaryTest::aboveThePlace);
        CHECK.sentence("14: of several that one meets at once the least", PlacesBoundaryTest::atOnceTheLeast);
        CHECK.sentence("14: NONE if there is none", PlacesBoundaryTest::noneAbove);
        CHECK.sentence("14: IllegalArgument", PlacesBoundaryTest::aboveOut);
        CHECK.end();
    }

    private static void located(String what, PlaneFaces p, int due, int... places) {
        for (int i = 0; i < places.length; i += 2) {
            int x = places[i];
            int y = places[i + 1];
            CHECK.equal("locate(" + x + ", " + y + ") " + what, due, p.locate(x, y));
        }
    }

    private static void roofed(String what, PlaneFaces p, int due, int... places) {
        for (int i = 0; i < places.length; i += 2) {
            int x = places[i];
            int y = places[i + 1];
            CHECK.equal("above(" + x + ", " + y + ") " + what, due, p.above(x, y));
        }
    }

    private static void hardBy() {
        PlaneFaces p = new PlaneFaces();
        located("of none", p, 0, 0, 0, 16000, 16000, -16000, -16000, 16000, -16000, -16000, 16000);
        Shapes.square(p, 0, 0, 10);
        located("a step within a square", p, 1, 1, 1, 9, 1, 9, 9, 1, 9, 5, 1, 9, 5, 5, 9, 1, 5);
        located("a step outside it", p, 0, -1, -1, 5, -1, 11, -1, 11, 5, 11, 11, 5, 11, -1, 11, -1, 5);
        PlaneFaces frame = new PlaneFaces();
        Shapes.square(frame, -16000, -16000, 32000);
        located("a step within the bounds' frame", frame, 1, 15999, 15999, -15999, -15999, 15999, -15999,
            -15999, 15999);
        located("in the middle of it", frame, 1, 0, 0);
        PlaneFaces slope = new PlaneFaces();
        Shapes.path(slope, 16000, 15999, -16000, -16000, 16000, -16000, 16000, 15999, 16000, 16000, -16000, 16000,
            -16000, -16000);
        CHECK.equal("left of the slope downwards", 1, slope.face(0));
        CHECK.equal("right of the slope downwards", 2, slope.face(1));
        located("below a slope by a hair", slope, 1, 0, -1, 15999, 15998, -15998, -15999);
        located("above a slope by a hair", slope, 2, 0, 0, 15999, 15999, -15999, -15999);
    }

    /** In line with an end, above, below and aside, an edge may be met twice, once or not at all. */
    private static void inLineWithEnds() {
        PlaneFaces p = new PlaneFaces();
        Shapes.path(p, 0, -20, 20, 0, 0, 20, -20, 0, 0, -20);
        located("within a diamond", p, 1, 0, 0, 0, -19, 0, 19, 19, 0, -19, 0, 10, 0, -10, 0);
        located("in line with its ends", p, 0, 0, 21, 0, -21, 21, 0, -21, 0, 20, 20, 20, -20, -20, 20, -20, -20, 10, 20,
            -10, 20, 10, -20, 20, 1, -20, -1);
        PlaneFaces crown = new PlaneFaces();
        Shapes.path(crown, 0, 0, 40, 0, 40, 30, 30, 10, 20, 30, 20, 10, 10, 10, 10, 30, 0, 30, 0, 0);
        located("within a crown", crown, 1, 10, 5, 20, 5, 30, 5, 1, 10, 5, 10, 25, 10, 35, 10, 39, 10, 5, 29, 39, 27,
            10, 9, 20, 9, 30, 9);
        located("outside a crown", crown, 0, 30, 11, 30, 30, 15, 11, 15, 30, 10, 31, 20, 31, 30, 31, 40, 31, 0, 31,
            -1, 10, 41, 10, -1, 30, 41, 30, 30, 20, 0, -1, 10, -1, 20, -1, 30, -1, 40, -1);
        PlaneFaces row = new PlaneFaces();
        Shapes.path(row, 0, 0, 10, 0, 20, 0, 20, 10, 10, 10, 0, 10, 0, 0);
        row.add(10, 2, 10, 4);
        row.add(10, 6, 10, 8);
        located("between uprights", row, 1, 10, 1, 10, 5, 10, 9, 9, 3, 11, 7);
        located("above and below them", row, 0, 10, 11, 10, -1);
        row.add(10, 0, 10, 2);
        row.add(10, 4, 10, 6);
        row.add(10, 8, 10, 10);
        located("to the right of a wall of uprights", row, row.face(2), 11, 1, 11, 5, 19, 9);
        located("to the left of it", row, row.face(0), 9, 1, 9, 5, 1, 9);
        CHECK.equal("faces on both sides of it", 3, row.count(2));
    }

    private static void withinPieces() {
        PlaneFaces p = new PlaneFaces();
        Shapes.triangles(p);
        for (int t = 1; t <= 20; t++) {
            located("under the top of triangle " + t, p, t, 0, 15 * t - 1);
            located("above its lower side", p, t, 0, -10 * t + 1, 5 - 10 * t, -10 * t + 1);
            located("above its top", p, t % 20 == 0 ? 0 : t + 1, 0, 15 * t + 1);
            located("below its lower side", p, t % 20 == 0 ? 0 : t + 1, 0, -10 * t - 1);
        }
        PlaneFaces medley = new PlaneFaces();
        Shapes.medley(medley);
        located("between two squares", medley, 2, 5, 50, 20, 51, 29, 29, 71, 71, 10, 11, 9, 10, 20, 49);
        located("in the inner square", medley, 1, 31, 31, 50, 39, 50, 61, 40, 41, 60, 41, 69, 69);
        located("in the triangle", medley, 3, 50, 41, 50, 59, 41, 41, 59, 41);
        located("in the square apart", medley, 4, 205, 5, 201, 9);
        located("in none of them", medley, 0, 199, 5, 211, 5, 150, 55, 400, 11, 101, 50);
    }

    private static void onSegment() {
        PlaneFaces p = new PlaneFaces();
        p.add(0, 0, 10, 0);
        p.add(0, 5, 0, 15);
        p.add(20, 0, 26, 9);
        p.add(30, 9, 36, 0);
        p.add(-16000, -16000, 16000, -15999);
        p.add(-16000, 16000, 16000, 16000);
        located("on a flat one", p, -2, 1, 0, 5, 0, 9, 0);
        located("on an upright one", p, -3, 0, 6, 0, 10, 0, 14);
        located("on a slope", p, -4, 22, 3, 24, 6);
        located("on a slope downwards", p, -5, 32, 6, 34, 3);
        located("on the upper bound", p, -7, 0, 16000, 15999, 16000, -15999, 16000);
        located("beside them by a hair", p, 0, 5, 1, 5, -1, 1, 10, -1, 10, 22, 4, 22, 2, 23, 4, 23, 5, 32, 5, 33, 4,
            0, -16000, 0, -15999, 15999, -15999, -15999, -16000, 0, 15999);
        PlaneFaces full = new PlaneFaces();
        Shapes.sixty(full);
        located("on segment 59", full, -2 - 59, 591, 1, 594, 4);
        located("on segment 0", full, -2, 1, 1, 4, 4);
        full.remove(59);
        located("where segment 59 was", full, 0, 591, 1);
        CHECK.equal("number of one upon it", 59, full.add(590, 2, 592, 0));
        located("on another segment 59", full, -2 - 59, 591, 1);
    }

    private static void atNoEnd() {
        PlaneFaces p = new PlaneFaces();
        p.add(0, 0, 1, 0);
        p.add(10, 0, 12, 0);
        p.add(20, 0, 20, 2);
        located("at an end", p, -100, 0, 0);
        located("at the other end", p, -101, 1, 0);
        located("in line before and behind", p, 0, -1, 0, 2, 0, 9, 0, 13, 0, 20, -1, 20, 3);
        located("at ends with a place between", p, -102, 10, 0);
        located("at the place between", p, -3, 11, 0);
        located("at an end behind it", p, -103, 12, 0);
        located("at a lower end", p, -104, 20, 0);
        located("above it", p, -4, 20, 1);
        located("at an upper end", p, -105, 20, 2);
        p.add(30, 0, 40, 10);
        p.add(40, 10, 50, 20);
        located("where two go on in one line", p, -107, 40, 10);
        located("a step before", p, -5, 39, 9);
        located("a step behind", p, -6, 41, 11);
        located("in line before a slope and behind", p, 0, 29, -1, 51, 21);
    }

    private static void anEnd() {
        PlaneFaces p = new PlaneFaces();
        Shapes.sixty(p);
        for (int s = 0; s < 60; s++) {
            located("where segment " + s + " begins", p, PlaneFaces.POINT - 2 * s, 10 * s, 0);
            located("where it ends", p, PlaneFaces.POINT - 2 * s - 1, 10 * s + 5, 5);
        }
        CHECK.equal("POINT", -100, PlaneFaces.POINT);
        p.remove(59);
        located("where segment 59 ended", p, 0, 595, 5, 590, 0);
        PlaneFaces frame = new PlaneFaces();
        Shapes.square(frame, -16000, -16000, 32000);
        located("at the bounds", frame, -100, -16000, -16000);
        located("at the bounds", frame, -101, 16000, -16000);
        located("at the bounds", frame, -103, 16000, 16000);
        located("at the bounds", frame, -105, -16000, 16000);
    }

    private static void leastHalf() {
        PlaneFaces p = new PlaneFaces();
        Shapes.star(p);
        located("where sixty begin", p, -100, 0, 0);
        for (int s = 0; s < 59; s++) {
            p.remove(s);
            located("when segment " + s + " is gone", p, -100 - 2 * s - 2, 0, 0);
        }
        p.remove(59);
        located("when all are gone", p, 0, 0, 0);
        PlaneFaces q = new PlaneFaces();
        q.add(10, 0, 0, 0);
        q.add(0, 0, 0, 10);
        q.add(-10, 0, 0, 0);
        located("where halves 1, 2 and 5 begin", q, -101, 0, 0);
        q.remove(0);
        located("where halves 2 and 5 begin", q, -102, 0, 0);
        q.remove(1);
        located("where half 5 begins", q, -105, 0, 0);
        q.add(0, 0, 5, 5);
        located("where halves 0 and 5 begin", q, -100, 0, 0);
    }

    private static void locateOut() {
        PlaneFaces none = new PlaneFaces();
        PlaneFaces p = new PlaneFaces();
        Shapes.square(p, -16000, -16000, 32000);
        for (int far : TOO_FAR) {
            for (PlaneFaces plane : new PlaneFaces[] {none, p}) {
                CHECK.illegalArgument("locate(" + far + ", 0)", () -> plane.locate(far, 0));
                CHECK.illegalArgument("locate(0, " + far + ")", () -> plane.locate(0, far));
                CHECK.illegalArgument("locate(" + far + ", " + far + ")", () -> plane.locate(far, far));
                CHECK.illegalArgument("locate(16000, " + far + ")", () -> plane.locate(16000, far));
                CHECK.illegalArgument("locate(" + far + ", -16000)", () -> plane.locate(far, -16000));
            }
        }
        located("at the bounds", p, -2, 0, -16000);
        located("at the bounds", p, -3, 16000, 0);
        located("at the bounds", p, -4, 0, 16000);
        located("at the bounds", p, -5, -16000, 0);
    }

    private static void meetsFirst() {
        PlaneFaces p = new PlaneFaces();
        for (int s = 0; s < 60; s++) {
            p.add(-5, 1000 - 10 * s, 5, 1001 - 10 * s);
        }
        for (int s = 0; s < 60; s++) {
            roofed("a step under segment " + s, p, s, 5, 1000 - 10 * s, -5, 999 - 10 * s);
        }
        PlaneFaces q = new PlaneFaces();
        q.add(-16000, 16000, 16000, 15999);
        q.add(-16000, 15999, 16000, 15999);
        q.add(-16000, 15998, 16000, 15999);
        roofed("three by a hair", q, 2, 0, -16000, -16000, 15997, 15999, 15998);
        roofed("two by a hair", q, 1, -16000, 15998);
        roofed("the last one", q, 0, -16000, 15999, 0, 15999, 15999, 15999);
        for (int low : new int[] {15999, 1, 0, -1, -2, -15999}) {
            PlaneFaces hair = new PlaneFaces();
            hair.add(-16000, low, 15999, low + 1);
            hair.add(-16000, low, 16000, low + 1);
            roofed("two at " + low + ", the second one below the first by a hair", hair, 1, -15999, low, 15999, low,
                0, -16000);
            PlaneFaces turned = new PlaneFaces();
            turned.add(16000, low + 1, -16000, low);
            turned.add(15999, low + 1, -16000, low);
            roofed("two at " + low + ", the first one below the second by a hair", turned, 0, -15999, low, 15999, low,
                0, -16000);
        }
        PlaneFaces r = new PlaneFaces();
        r.add(0, 10, 3, 11);
        r.add(1, 11, 4, 10);
        roofed("of two slopes the lower one", r, PlaneFaces.NONE, 4, 10, -1, 0, 5, 0);
        roofed("of two slopes the lower one", r, 0, 0, 0, 1, 0);
    }

    private static void underEnds() {
        PlaneFaces p = new PlaneFaces();
        p.add(0, 10, 10, 20);
        p.add(20, 10, 12, 18);
        roofed("under a left end", p, 0, 0, 9, 0, -16000);
        roofed("under a right end", p, 0, 10, 19, 10, 0);
        roofed("under the other's left end", p, 1, 12, 17, 12, 0);
        roofed("under the other's right end", p, 1, 20, 9, 20, 0);
        roofed("beside the ends", p, PlaneFaces.NONE, -1, 0, 11, 0, 21, 0);
        p.add(30, 10, 30, 20);
        roofed("under an upright", p, 2, 30, 9, 30, -16000);
        roofed("beside an upright", p, PlaneFaces.NONE, 29, 0, 31, 0, 29, 15, 31, 15);
        p.add(-16000, 16000, -16000, 15999);
        p.add(16000, 16000, 15999, 16000);
        roofed("at the bounds", p, 3, -16000, 15998, -16000, -16000);
        roofed("at the bounds", p, 4, 16000, 15999, 15999, 15999, 16000, -16000);
    }

    private static void atThePlace() {
        PlaneFaces p = new PlaneFaces();
        p.add(0, 0, 10, 0);
        p.add(0, 10, 10, 20);
        p.add(0, 40, 10, 30);
        roofed("on a flat one", p, 1, 5, 0, 0, 0, 10, 0);
        roofed("on a slope", p, 2, 5, 15, 0, 10, 10, 20);
        roofed("on a slope downwards", p, PlaneFaces.NONE, 5, 35, 0, 40, 10, 30);
        p.add(20, 0, 20, 10);
        roofed("at an upright's upper end", p, PlaneFaces.NONE, 20, 10);
        p.add(15, 20, 25, 20);
        roofed("at an upright's upper end, under another one", p, 4, 20, 10);
        PlaneFaces q = new PlaneFaces();
        q.add(0, 0, 1, 16000);
        q.add(0, 0, -1, 16000);
        roofed("at an end that steep ones leave", q, PlaneFaces.NONE, 0, 0);
        q.add(-5, 16000, 5, 16000);
        CHECK.equal("count(0), as the flat one would touch them", 2, q.count(0));
        PlaneFaces star = new PlaneFaces();
        Shapes.star(star);
        roofed("where sixty begin, none upright", star, PlaneFaces.NONE, 0, 0);
    }

    private static void aboveThePlace() {
        PlaneFaces p = new PlaneFaces();
        p.add(0, 100, 5, 100);
        p.add(0, 10, 0, 0);
        roofed("under an upright", p, 1, 0, -1);
        roofed("at its lower end", p, 1, 0, 0);
        roofed("on it", p, 1, 0, 1, 0, 5, 0, 9);
        roofed("at its upper end", p, 0, 0, 10);
        p.add(0, 10, 0, 20);
        roofed("where an upright goes on from another one", p, 2, 0, 10);
        roofed("on the one below", p, 1, 0, 9);
        p.add(0, 10, 5, 15);
        p.add(-5, 5, 0, 10);
        roofed("on the one below, others meet it at its end", p, 1, 0, 9);
        roofed("at the end of four", p, 2, 0, 10);
        p.remove(2);
        roofed("at the end of three that have nothing above it", p, 0, 0, 10);
        PlaneFaces frame = new PlaneFaces();
        Shapes.square(frame, -16000, -16000, 32000);
        roofed("on the left bound", frame, 3, -16000, -16000, -16000, 0, -16000, 15999);
        roofed("on the right bound", frame, 1, 16000, -16000, 16000, 15999);
        roofed("on the lower bound", frame, 2, 0, -16000, 15999, -16000);
        roofed("on the upper bound", frame, PlaneFaces.NONE, 0, 16000, 16000, 16000, -16000, 16000);
    }

    private static void atOnceTheLeast() {
        PlaneFaces star = new PlaneFaces();
        Shapes.star(star);
        roofed("under sixty that meet", star, 0, 0, -1, 0, -14999);
        star.remove(0);
        roofed("under sixty less the first", star, 1, 0, -1, 0, -14999);
        int[][] others = {{-4, 3}, {4, 2}, {-2, 8}, {1, 9}, {0, 7}, {-8, -3}, {6, -5}};
        for (int first = 0; first < others.length; first++) {
            PlaneFaces p = new PlaneFaces();
            p.add(500, 0, 501, 0);
            for (int i = 0; i < others.length; i++) {
                int[] to = others[(first + i) % others.length];
                if (i % 2 == 0) {
                    p.add(0, 50, to[0], 50 + to[1]);
                } else {
                    p.add(to[0], 50 + to[1], 0, 50);
                }
            }
            roofed("under seven that meet", p, 1, 0, 49, 0, 0, 0, -16000);
            p.remove(1);
            roofed("under six that meet", p, 2, 0, 49, 0, 0, 0, -16000);
            p.add(-1, 40, 1, 40);
            roofed("with another one before them", p, 1, 0, 39);
            roofed("above that one", p, 2, 0, 40);
        }
        PlaneFaces far = new PlaneFaces();
        far.add(-16000, -16000, 16000, 16000);
        far.add(16000, 16000, -16000, 15999);
        far.add(16000, 16000, 15999, -16000);
        roofed("three that meet at a corner of the bounds", far, 0, 16000, 15999, 16000, -16000);
        far.remove(0);
        roofed("two that meet at a corner of the bounds", far, 1, 16000, 15999, 16000, -16000);
    }

    private static void noneAbove() {
        PlaneFaces p = new PlaneFaces();
        roofed("of none", p, PlaneFaces.NONE, 0, 0, 0, -16000, 16000, 16000);
        p.add(0, 0, 10, 0);
        roofed("above the only one", p, PlaneFaces.NONE, 5, 1, 5, 16000);
        roofed("on the only one", p, PlaneFaces.NONE, 5, 0);
        roofed("beside the only one", p, PlaneFaces.NONE, -1, -5, 11, -5);
        roofed("below the only one", p, 0, 5, -1);
        p.remove(0);
        roofed("below where it was", p, PlaneFaces.NONE, 5, -1);
        Shapes.sixty(p);
        roofed("below segment 59", p, 59, 590, -1, 595, 4);
        p.clear();
        roofed("below where it was", p, PlaneFaces.NONE, 590, -1);
        p.add(0, 0, 10, 10);
        p.add(5, -5, 5, 6);
        CHECK.equal("count(0), as the second one would cross", 1, p.count(0));
        roofed("where the refused one would be", p, 0, 5, 4);
        roofed("above the slope", p, PlaneFaces.NONE, 5, 5);
    }

    private static void aboveOut() {
        PlaneFaces none = new PlaneFaces();
        PlaneFaces p = new PlaneFaces();
        Shapes.square(p, -16000, -16000, 32000);
        for (int far : TOO_FAR) {
            for (PlaneFaces plane : new PlaneFaces[] {none, p}) {
                CHECK.illegalArgument("above(" + far + ", 0)", () -> plane.above(far, 0));
                CHECK.illegalArgument("above(0, " + far + ")", () -> plane.above(0, far));
                CHECK.illegalArgument("above(" + far + ", " + far + ")", () -> plane.above(far, far));
                CHECK.illegalArgument("above(16000, " + far + ")", () -> plane.above(16000, far));
                CHECK.illegalArgument("above(" + far + ", -16000)", () -> plane.above(far, -16000));
            }
        }
        roofed("at the bounds", p, 1, 16000, -16000);
        roofed("at the bounds", p, PlaneFaces.NONE, -16000, 16000);
    }
}
