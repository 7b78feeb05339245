/** Promises 13 and 14: locate, above. */
public final class PlacesTest {
    private static final Check CHECK = new Check("PlacesTest");

    public static void main(String[] args) {
        locateInFaces();
        locateOnSegments();
        locateStraightUnderEnds();
        locateFar();
        aboveOrdinary();
        aboveUpright();
        aboveSeveralAtOnce();
        aboveFar();
        wrongPlaces();
        CHECK.end();
    }

    private static void located(String what, PlaneFaces p, int x, int y, int due) {
        CHECK.equal("locate(" + x + ", " + y + ") of " + what, due, p.locate(x, y));
    }

    private static void roofed(String what, PlaneFaces p, int x, int y, int due) {
        CHECK.equal("above(" + x + ", " + y + ") of " + what, due, p.above(x, y));
    }

    private static void locateInFaces() {
        PlaneFaces p = new PlaneFaces();
        Shapes.square(p, 0, 0, 100);
        Shapes.square(p, 40, 40, 20);
        Shapes.square(p, 45, 45, 10);
        located("the nest", p, 50, 50, 3);
        located("the nest", p, 42, 50, 2);
        located("the nest", p, 20, 50, 1);
        located("the nest", p, 50, 20, 1);
        located("the nest", p, 50, 80, 1);
        located("the nest", p, -1, 50, 0);
        located("the nest", p, 50, 101, 0);
        located("the nest", p, 50, -1, 0);
    }

    private static void locateOnSegments() {
        PlaneFaces p = new PlaneFaces();
        Shapes.square(p, 0, 0, 10);
        p.add(20, 20, 24, 28);
        p.add(24, 28, 30, 30);
        located("the ends", p, 0, 0, -100);
        located("the ends", p, 10, 0, -101);
        located("the ends", p, 0, 10, -105);
        located("the ends", p, 20, 20, -108);
        located("the ends", p, 24, 28, -109);
        located("the ends", p, 30, 30, -111);
        located("the sides", p, 5, 0, -2);
        located("the sides", p, 10, 9, -3);
        located("the sides", p, 1, 10, -4);
        located("the sides", p, 0, 5, -5);
        located("a slope", p, 22, 24, -6);
        located("a slope", p, 22, 25, 0);
        located("the line on from a slope", p, 26, 32, 0);
        located("the line on from a side", p, 11, 10, 0);
    }

    /** Straight above these places stand ends and upright segments. */
    private static void locateStraightUnderEnds() {
        PlaneFaces p = new PlaneFaces();
        Shapes.path(p, 0, 0, 10, 10, 20, 0, 30, 10, 40, 0, 40, 20, 0, 20, 0, 0);
        located("the crown", p, 10, 5, 0);
        located("the crown", p, 10, 15, 1);
        located("the crown", p, 20, 5, 1);
        located("the crown", p, 20, -5, 0);
        located("the crown", p, 0, -5, 0);
        located("the crown", p, 40, -5, 0);
        located("the crown", p, 0, 25, 0);
        p.add(20, 18, 20, 15);
        p.add(20, 12, 20, 14);
        located("the crown with uprights", p, 20, 5, 1);
        located("the crown with uprights", p, 20, -5, 0);
        located("the crown with uprights", p, 20, 13, -2 - 8);
        located("the crown with uprights", p, 20, 15, -100 - 15);
    }

    private static void locateFar() {
        PlaneFaces p = new PlaneFaces();
        Shapes.path(p, -16000, -16000, 16000, 15999, 16000, 16000, -16000, -16000);
        CHECK.equal("area of the sliver", 32000, p.area(1));
        located("the sliver", p, 0, 0, -2 - 2);
        located("the sliver", p, 0, -1, 0);
        located("the sliver", p, 15999, 15998, 0);
        located("the sliver", p, -16000, 16000, 0);
        located("the sliver", p, 16000, 16000, -100 - 3);
        PlaneFaces q = new PlaneFaces();
        Shapes.path(q, -16000, -16000, 16000, 15997, 16000, 16000, -16000, -16000);
        located("the wider sliver", q, 15999, 15998, 1);
        located("the wider sliver", q, 0, 0, -2 - 2);
        located("the wider sliver", q, 0, -1, 1);
        located("the wider sliver", q, 0, -2, 0);
    }

    private static void aboveOrdinary() {
        PlaneFaces p = new PlaneFaces();
        p.add(0, 20, 30, 20);
        p.add(30, 5, 0, 10);
        p.add(10, 12, 20, 18);
        roofed("three", p, 5, 0, 1);
        roofed("three", p, 5, 10, 0);
        roofed("three", p, 15, 0, 1);
        roofed("three", p, 15, 10, 2);
        roofed("three", p, 15, 15, 0);
        roofed("three", p, 15, 20, -1);
        roofed("three", p, 15, 21, -1);
        roofed("three", p, 31, 0, -1);
        roofed("three", p, -1, 0, -1);
        roofed("three", p, 0, 0, 1);
        roofed("three", p, 30, 0, 1);
        roofed("three", p, 0, 10, 0);
        roofed("three", p, 10, 12, 0);
        p.remove(1);
        roofed("two", p, 15, 0, 2);
    }

    private static void aboveUpright() {
        PlaneFaces p = new PlaneFaces();
        p.add(0, 30, 0, 20);
        p.add(0, 0, 0, 10);
        p.add(0, 10, 0, 20);
        p.add(-5, 40, 5, 40);
        roofed("uprights", p, 0, -3, 1);
        roofed("uprights", p, 0, 0, 1);
        roofed("uprights", p, 0, 9, 1);
        roofed("uprights", p, 0, 10, 2);
        roofed("uprights", p, 0, 15, 2);
        roofed("uprights", p, 0, 20, 0);
        roofed("uprights", p, 0, 29, 0);
        roofed("uprights", p, 0, 30, 3);
        roofed("uprights", p, 0, 40, -1);
        roofed("uprights", p, 1, 0, 3);
    }

    private static void aboveSeveralAtOnce() {
        PlaneFaces p = new PlaneFaces();
        p.add(99, 99, 100, 100);
        p.add(0, 10, 0, 20);
        p.add(-5, 5, 0, 10);
        p.add(0, 10, 5, 5);
        roofed("three that meet", p, 0, 0, 1);
        roofed("three that meet", p, 0, 9, 1);
        roofed("three that meet", p, 0, 10, 1);
        p.remove(1);
        roofed("two that meet", p, 0, 9, 2);
        roofed("two that meet", p, 0, 10, -1);
        p.add(0, 7, 0, 10);
        roofed("two that meet over an upright", p, 0, 0, 1);
        roofed("two that meet over an upright", p, 0, 8, 1);
        p.remove(1);
        p.add(0, 12, 0, 10);
        p.remove(2);
        roofed("an upright and a slope", p, 0, 1, 1);
    }

    /** Heights that differ by less than a whole, at the bounds. */
    private static void aboveFar() {
        PlaneFaces p = new PlaneFaces();
        p.add(-16000, -16000, 16000, 16000);
        p.add(-16000, -16000, 16000, 15999);
        roofed("far slopes", p, -15999, -16000, 1);
        roofed("far slopes", p, 15999, -16000, 1);
        roofed("far slopes", p, -16000, -16000, -1);
        roofed("far slopes", p, 0, -1, 1);
        roofed("far slopes", p, 0, 0, -1);
        roofed("far slopes", p, 1, 0, 1);
        roofed("far slopes", p, 16000, 15998, 1);
        roofed("far slopes", p, 16000, 15999, 0);
        PlaneFaces q = new PlaneFaces();
        q.add(-16000, 15999, 16000, 16000);
        q.add(-16000, 15999, 16000, 15999);
        roofed("far flats", q, -15999, -16000, 1);
        roofed("far flats", q, -15999, 15999, 0);
        roofed("far flats", q, -16000, 15998, 0);
        roofed("far flats", q, 16000, -16000, 1);
    }

    private static void wrongPlaces() {
        PlaneFaces p = new PlaneFaces();
        Shapes.square(p, -16000, -16000, 32000);
        for (int far : new int[] {16001, -16001, Integer.MAX_VALUE, Integer.MIN_VALUE}) {
            CHECK.illegalArgument("locate(" + far + ", 0)", () -> p.locate(far, 0));
            CHECK.illegalArgument("locate(0, " + far + ")", () -> p.locate(0, far));
            CHECK.illegalArgument("above(" + far + ", 0)", () -> p.above(far, 0));
            CHECK.illegalArgument("above(0, " + far + ")", () -> p.above(0, far));
        }
        located("the bounds", p, -16000, -16000, -100);
        located("the bounds", p, 16000, 0, -3);
        roofed("the bounds", p, 16000, 16000, -1);
    }
}
