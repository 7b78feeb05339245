import java.util.function.Consumer;

/** Boundary cases of promises 1 to 4 (a new object, add, remove, clear): a test for each sentence that names one. */
public final class ChangesBoundaryTest {
    private static final Check CHECK = new Check("ChangesBoundaryTest");

    public static void main(String[] args) {
        CHECK.sentence("1: No segments", ChangesBoundaryTest::noSegments);
        CHECK.sentence("2: A segment: its number", ChangesBoundaryTest::itsNumber);
        CHECK.sentence("2: NONE if they cross", ChangesBoundaryTest::crossing);
        CHECK.sentence("2: NONE if an end lies within the other one", ChangesBoundaryTest::endWithin);
        CHECK.sentence("2: NONE if they lie in one line and overlap", ChangesBoundaryTest::overlap);
        CHECK.sentence("2: NONE if it has anything in common with any other one", ChangesBoundaryTest::anyOther);
        CHECK.sentence("2: but an end of both", ChangesBoundaryTest::endOfBoth);
        CHECK.sentence("2: nothing in common, by a hair", ChangesBoundaryTest::byAHair);
        CHECK.sentence("2: NONE (and there is none more)", ChangesBoundaryTest::noneMore);
        CHECK.sentence("2: IllegalArgument: also if its ends are the same", ChangesBoundaryTest::sameEnds);
        CHECK.sentence("2: IllegalArgument (a coordinate out of bounds)", ChangesBoundaryTest::outOfBounds);
        CHECK.sentence("2: IllegalState: there are 60", ChangesBoundaryTest::thereAreSixty);
        CHECK.sentence("3: A segment is gone", ChangesBoundaryTest::removed);
        CHECK.sentence("3: whether it was there", ChangesBoundaryTest::wasThere);
        CHECK.sentence("4: All segments are gone", ChangesBoundaryTest::allGone);
        CHECK.sentence("4: how many there were", ChangesBoundaryTest::howMany);
        CHECK.end();
    }

    private static void noSegments() {
        PlaneFaces p = new PlaneFaces();
        int[] counts = {0, 0, 1, 0, 0, 0};
        for (int what = 0; what < 6; what++) {
            CHECK.equal("count(" + what + ")", counts[what], p.count(what));
        }
        int[] borders = {0, 0, PlaneFaces.NONE, 0};
        for (int what = 0; what < 4; what++) {
            CHECK.equal("border(0, " + what + ")", borders[what], p.border(0, what));
        }
        for (int s = 0; s < 60; s++) {
            CHECK.equal("remove(" + s + ")", false, p.remove(s));
        }
        for (int h = 0; h < 120; h++) {
            int half = h;
            CHECK.outOfBounds("begins(" + h + ", false)", () -> p.begins(half, false));
        }
        CHECK.outOfBounds("next(0)", () -> p.next(0));
        CHECK.outOfBounds("face(0)", () -> p.face(0));
        CHECK.outOfBounds("piece(0)", () -> p.piece(0));
        CHECK.outOfBounds("around(0)", () -> p.around(0));
        CHECK.equal("area(0)", 0, p.area(0));
        CHECK.equal("across(0, 0)", 0, p.across(0, 0));
        CHECK.equal("locate(0, 0)", 0, p.locate(0, 0));
        CHECK.equal("above(0, 0)", PlaneFaces.NONE, p.above(0, 0));
        CHECK.equal("clear()", 0, p.clear());
        CHECK.equal("add(0, 0, 1, 0)", 0, p.add(0, 0, 1, 0));
        CHECK.equal("count(0) of another new object", 0, new PlaneFaces().count(0));
    }

    private static void itsNumber() {
        PlaneFaces p = new PlaneFaces();
        for (int s = 0; s < 60; s++) {
            CHECK.equal("add " + s, s, p.add(10 * s, 0, 10 * s + 5, 5));
        }
        p.remove(59);
        p.remove(0);
        CHECK.equal("add that is refused", PlaneFaces.NONE, p.add(10, 0, 15, 5));
        CHECK.equal("add when 0 and 59 are free", 0, p.add(0, 0, 5, 5));
        CHECK.equal("add when 59 is free", 59, p.add(590, 0, 595, 5));
    }

    /** The segment there is, and the one that is drawn, each from either end and in either place. */
    private static void pair(String why, boolean room, int[] there, int[] drawn) {
        for (int turned = 0; turned < 8; turned++) {
            int[] first = (turned & 4) == 0 ? there : drawn;
            int[] second = (turned & 4) == 0 ? drawn : there;
            PlaneFaces p = new PlaneFaces();
            add(p, first, (turned & 1) != 0);
            CHECK.equal(why + ", turned " + turned, room ? 1 : PlaneFaces.NONE, add(p, second, (turned & 2) != 0));
            CHECK.equal("count(0) after " + why + ", turned " + turned, room ? 2 : 1, p.count(0));
        }
    }

    private static int add(PlaneFaces p, int[] e, boolean back) {
        return back ? p.add(e[2], e[3], e[0], e[1]) : p.add(e[0], e[1], e[2], e[3]);
    }

    private static int[] ends(int... e) {
        return e;
    }

    private static void crossing() {
        pair("in the middle of both", false, ends(0, 0, 10, 10), ends(0, 10, 10, 0));
        pair("not at a whole point", false, ends(0, 0, 3, 2), ends(0, 1, 3, 0));
        pair("flat and upright", false, ends(0, 5, 10, 5), ends(3, 0, 3, 10));
        pair("flat and slope", false, ends(0, 5, 10, 5), ends(0, 4, 10, 6));
        pair("upright and slope", false, ends(5, 0, 5, 10), ends(4, 0, 6, 10));
        pair("hard by an end", false, ends(0, 0, 100, 1), ends(99, 0, 99, 1));
        pair("from corner to corner of the bounds", false, ends(-16000, -16000, 16000, 16000),
            ends(-16000, 16000, 16000, -16000));
        pair("by a hair", false, ends(-16000, -16000, 16000, 16000), ends(-16000, -15999, 16000, 15999));
    }

    private static void endWithin() {
        pair("slope", false, ends(0, 0, 10, 4), ends(5, 2, 7, 9));
        pair("flat", false, ends(0, 0, 10, 0), ends(1, 0, 1, 5));
        pair("flat, from below", false, ends(0, 0, 10, 0), ends(9, 0, 20, -5));
        pair("upright", false, ends(0, 0, 0, 10), ends(0, 9, 5, 9));
        pair("upright, from the left", false, ends(0, 0, 0, 10), ends(0, 1, -5, -9));
        pair("far", false, ends(-16000, -16000, 16000, 16000), ends(15999, 15999, 16000, -16000));
    }

    private static void overlap() {
        pair("the same", false, ends(0, 0, 10, 4), ends(0, 0, 10, 4));
        pair("the same, flat", false, ends(0, 0, 1, 0), ends(0, 0, 1, 0));
        pair("the same, upright", false, ends(0, 0, 0, 1), ends(0, 0, 0, 1));
        pair("a part from an end on", false, ends(0, 0, 10, 4), ends(0, 0, 5, 2));
        pair("a part from an end on, flat", false, ends(0, 0, 2, 0), ends(1, 0, 2, 0));
        pair("a part from an end on, upright", false, ends(0, 0, 0, 2), ends(0, 1, 0, 2));
        pair("a part within", false, ends(0, 0, 15, 6), ends(5, 2, 10, 4));
        pair("a part within, flat", false, ends(0, 0, 9, 0), ends(1, 0, 8, 0));
        pair("a part within, upright", false, ends(0, 0, 0, 9), ends(0, 4, 0, 5));
        pair("a part of each", false, ends(0, 0, 10, 4), ends(5, 2, 15, 6));
        pair("a part of each, flat", false, ends(0, 0, 6, 0), ends(5, 0, 16, 0));
        pair("a part of each, upright", false, ends(0, 0, 0, 6), ends(0, 5, 0, 16));
        pair("from bound to bound", false, ends(-16000, 16000, 16000, -16000), ends(-1, 1, 1, -1));
    }

    /** A drawn segment that has room beside all but the first, the last, or one between. */
    private static void anyOther() {
        for (int s : new int[] {0, 1, 29, 57, 58}) {
            PlaneFaces p = new PlaneFaces();
            Shapes.sixty(p);
            p.remove(59);
            CHECK.equal("across segment " + s, PlaneFaces.NONE, p.add(10 * s, 5, 10 * s + 5, 0));
            int[] beyond = s == 58 ? ends(572, 3) : ends(10 * s + 13, 2);
            CHECK.equal("from an end of it across another one", PlaneFaces.NONE,
                p.add(10 * s, 0, beyond[0], beyond[1]));
            CHECK.equal("with room beside all", 59, p.add(10 * s, 5, 10 * s + 5, 6));
        }
    }

    private static void endOfBoth() {
        pair("on in one line", true, ends(0, 0, 10, 4), ends(10, 4, 15, 6));
        pair("on in one line, flat", true, ends(0, 0, 1, 0), ends(1, 0, 2, 0));
        pair("on in one line, upright", true, ends(0, 0, 0, 1), ends(0, 1, 0, 2));
        pair("a right angle", true, ends(0, 0, 10, 0), ends(0, 0, 0, 10));
        pair("an angle of a hair", true, ends(-16000, -16000, 16000, 16000), ends(-16000, -16000, 16000, 15999));
        pair("from bound to bound", true, ends(-16000, 0, 0, 0), ends(0, 0, 16000, 0));
        PlaneFaces p = new PlaneFaces();
        Shapes.path(p, 0, 0, 10, 0, 10, 10);
        CHECK.equal("an end of two others each", 2, p.add(10, 10, 0, 0));
        PlaneFaces star = new PlaneFaces();
        Shapes.star(star);
        CHECK.equal("sixty at one end", 60, star.count(0));
    }

    private static void byAHair() {
        pair("in one line, a step apart", true, ends(0, 0, 5, 0), ends(6, 0, 9, 0));
        pair("in one line, a step apart, upright", true, ends(0, 0, 0, 5), ends(0, 6, 0, 9));
        pair("in one line, apart on a slope", true, ends(0, 0, 5, 2), ends(10, 4, 15, 6));
        pair("beside one another", true, ends(0, 0, 5, 0), ends(0, 1, 5, 1));
        pair("beside one another, upright", true, ends(0, 0, 0, 5), ends(1, 0, 1, 5));
        pair("a step from a side", true, ends(0, 0, 10, 0), ends(5, 1, 5, 9));
        pair("a step from an end", true, ends(0, 0, 10, 0), ends(11, -5, 11, 5));
        pair("towards it, the line would meet it", true, ends(0, 0, 10, 10), ends(0, 9, 4, 5));
        pair("its line would meet an end", true, ends(0, 0, 10, 0), ends(10, 1, 10, 5));
        pair("beside it by a hair", true, ends(-16000, -16000, 16000, 15999), ends(-16000, -15999, 16000, 16000));
        pair("an end beside it by a hair", true, ends(-16000, -16000, 16000, 15999), ends(0, 0, 0, 1));
    }

    private static void refusedChangesNothing(String why, Consumer<PlaneFaces> before, int... e) {
        String due = Snapshot.of(before);
        int[] answer = new int[1];
        String after = Snapshot.of(p -> {
            before.accept(p);
            answer[0] = p.add(e[0], e[1], e[2], e[3]);
        });
        CHECK.equal("add " + why, PlaneFaces.NONE, answer[0]);
        CHECK.equal("all answers after add " + why, due, after);
        CHECK.equal("all answers after count and twice add " + why, due, Snapshot.of(p -> {
            before.accept(p);
            p.count(2);
            p.add(e[0], e[1], e[2], e[3]);
            p.add(e[0], e[1], e[2], e[3]);
        }));
    }

    private static void noneMore() {
        refusedChangesNothing("across all", Shapes::medley, -10, 51, 300, 5);
        refusedChangesNothing("of one that is there", Shapes::medley, 30, 30, 70, 30);
        refusedChangesNothing("that would part a face", Shapes::medley, 50, 0, 50, 100);
        refusedChangesNothing("across the only one", p -> p.add(0, 0, 2, 2), 0, 2, 2, 0);
        PlaneFaces p = new PlaneFaces();
        p.add(0, 0, 10, 0);
        CHECK.equal("add that is refused", PlaneFaces.NONE, p.add(5, -5, 5, 5));
        CHECK.equal("remove of the number it would have had", false, p.remove(1));
        CHECK.equal("add over where it would be", 1, p.add(4, 5, 6, 5));
        CHECK.equal("clear", 2, p.clear());
    }

    private static void sameEnds() {
        PlaneFaces p = new PlaneFaces();
        CHECK.illegalArgument("add of a place with none there", () -> p.add(0, 0, 0, 0));
        p.add(0, 0, 10, 0);
        CHECK.illegalArgument("add of an end", () -> p.add(10, 0, 10, 0));
        CHECK.illegalArgument("add of a place on a segment", () -> p.add(5, 0, 5, 0));
        CHECK.illegalArgument("add of a place beside", () -> p.add(5, 5, 5, 5));
        CHECK.illegalArgument("add of a corner of the bounds", () -> p.add(-16000, 16000, -16000, 16000));
        CHECK.equal("add of one a step long", 1, p.add(5, 5, 5, 6));
        CHECK.equal("add of one a step wide", 2, p.add(7, 5, 8, 5));
        CHECK.equal("add of one with ax = ay and bx = by", 3, p.add(20, 20, 21, 21));
        CHECK.equal("add of one with ax = by and ay = bx", 4, p.add(30, 40, 40, 30));
        p.clear();
        Shapes.sixty(p);
        CHECK.illegalArgument("add of a place as the 61st", () -> p.add(5, 50, 5, 50));
    }

    private static void outOfBounds() {
        PlaneFaces p = new PlaneFaces();
        p.add(0, 0, 0, 16000);
        CHECK.illegalArgument("add of one that goes on beyond the bounds", () -> p.add(0, 16000, 0, 16001));
        CHECK.illegalArgument("add of one that would cross", () -> p.add(-16001, 5, 5, 5));
        CHECK.illegalArgument("add of a place out of bounds", () -> p.add(16001, 5, 16001, 5));
        CHECK.equal("add along the bounds", 1, p.add(16000, -16000, 16000, 16000));
        CHECK.equal("add along the other bounds", 2, p.add(-16000, -16000, 16000, -16000));
    }

    private static void thereAreSixty() {
        PlaneFaces p = new PlaneFaces();
        Shapes.sixty(p);
        CHECK.equal("count(0) of sixty", 60, p.count(0));
        CHECK.illegalState("add of the 61st", () -> p.add(0, 50, 5, 50));
        CHECK.illegalState("add of the 61st that has no room", () -> p.add(0, 5, 5, 0));
        CHECK.illegalState("add of the 61st that is there", () -> p.add(0, 0, 5, 5));
        p.remove(33);
        CHECK.equal("add that has no room with 59 there", PlaneFaces.NONE, p.add(0, 5, 5, 0));
        CHECK.equal("add with 59 there", 33, p.add(0, 50, 5, 50));
        CHECK.illegalState("add with 60 there again", () -> p.add(0, 60, 5, 60));
        p.remove(0);
        CHECK.equal("add with 59 there, segment 59 too", 0, p.add(0, 60, 5, 60));
        p.clear();
        CHECK.equal("add when all are gone", 0, p.add(0, 5, 5, 0));
        PlaneFaces q = new PlaneFaces();
        for (int i = 0; i < 100; i++) {
            CHECK.equal("add " + i + " of many, each removed", 0, q.add(0, i, 5, i));
            q.remove(0);
        }
        CHECK.equal("add behind them", 0, q.add(0, 0, 5, 0));
    }

    /** Removing the one added last gives what there was before; the others keep their numbers. */
    private static void removed() {
        String due = Snapshot.of(Shapes::medley);
        int[][] extra = {{0, 100, 30, 70}, {500, 0, 500, 5}, {45, 45, 46, 46}, {70, 70, 100, 100}, {400, 0, 395, 5}};
        for (int[] e : extra) {
            CHECK.equal("all answers when " + e[0] + ", " + e[1] + " is added and removed", due, Snapshot.of(p -> {
                Shapes.medley(p);
                Shapes.path(p, e);
                p.remove(18);
            }));
            CHECK.equal("the same with questions between", due, Snapshot.of(p -> {
                Shapes.medley(p);
                Shapes.path(p, e);
                p.count(2);
                p.remove(18);
            }));
        }
        PlaneFaces p = new PlaneFaces();
        Shapes.sixty(p);
        for (int s = 0; s < 60; s++) {
            CHECK.equal("remove(" + s + ")", true, p.remove(s));
            CHECK.equal("count(0) then", 59 - s, p.count(0));
        }
        CHECK.equal("faces without any", 1, p.count(2));
        PlaneFaces q = new PlaneFaces();
        Shapes.square(q, 0, 0, 10);
        q.remove(1);
        CHECK.equal("x of half 4 when 1 is gone", 10, q.begins(4, false));
        CHECK.equal("y of half 4 when 1 is gone", 10, q.begins(4, true));
        CHECK.equal("next(0) when 1 is gone", 1, q.next(0));
        CHECK.equal("faces of an open square", 1, q.count(2));
        CHECK.equal("locate where it was", 0, q.locate(10, 5));
        CHECK.equal("locate at its end, of another one too", -101, q.locate(10, 0));
    }

    private static void wasThere() {
        PlaneFaces p = new PlaneFaces();
        CHECK.equal("remove(0) of none", false, p.remove(0));
        p.add(0, 0, 1, 0);
        CHECK.equal("remove(1) of one", false, p.remove(1));
        CHECK.equal("remove(0) of one", true, p.remove(0));
        CHECK.equal("remove(0) again", false, p.remove(0));
        p.add(0, 0, 1, 0);
        CHECK.equal("remove(0) when it is there again", true, p.remove(0));
        p.clear();
        Shapes.sixty(p);
        for (int s : new int[] {-1, -2, 60, 61, 120, Integer.MAX_VALUE, Integer.MIN_VALUE}) {
            CHECK.equal("remove(" + s + ") of sixty", false, p.remove(s));
        }
        CHECK.equal("count(0) then", 60, p.count(0));
        CHECK.equal("remove(59) of sixty", true, p.remove(59));
        CHECK.equal("remove(59) again", false, p.remove(59));
        p.clear();
        CHECK.equal("remove(5) when all are gone", false, p.remove(5));
        String due = Snapshot.of(Shapes::medley);
        CHECK.equal("all answers when none was removed", due, Snapshot.of(q -> {
            Shapes.medley(q);
            q.remove(18);
            q.remove(-1);
            q.remove(60);
        }));
    }

    private static void allGone() {
        String due = Snapshot.of(p -> { });
        CHECK.equal("all answers when a medley is cleared", due, Snapshot.of(p -> {
            Shapes.medley(p);
            p.clear();
        }));
        CHECK.equal("all answers when sixty are cleared, asked before", due, Snapshot.of(p -> {
            Shapes.triangles(p);
            p.across(0, 20);
            p.clear();
        }));
        CHECK.equal("all answers when none are cleared", due, Snapshot.of(PlaneFaces::clear));
        CHECK.equal("all answers of a medley behind a clear", Snapshot.of(Shapes::medley), Snapshot.of(p -> {
            Shapes.star(p);
            p.count(5);
            p.clear();
            Shapes.medley(p);
        }));
    }

    private static void howMany() {
        PlaneFaces p = new PlaneFaces();
        CHECK.equal("clear of none", 0, p.clear());
        p.add(0, 0, 1, 0);
        CHECK.equal("clear of one", 1, p.clear());
        CHECK.equal("clear again", 0, p.clear());
        Shapes.sixty(p);
        CHECK.equal("clear of sixty", 60, p.clear());
        Shapes.sixty(p);
        p.remove(0);
        p.remove(30);
        p.add(0, 5, 5, 5);
        p.add(10, 5, 15, 0);
        CHECK.equal("clear of sixty less two, and one more", 59, p.clear());
        CHECK.equal("clear then", 0, p.clear());
    }
}
