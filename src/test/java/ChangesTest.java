/** Promises 1 to 4: a new object, add, remove, clear. */
public final class ChangesTest {
    private static final Check CHECK = new Check("ChangesTest");

    public static void main(String[] args) {
        newObject();
        addNumbers();
        addRefusesWhatMeets();
        addTakesWhatMeetsAtEnds();
        addWrongInputs();
        addOrderOfExceptions();
        farCrossings();
        remove();
        clear();
        CHECK.end();
    }

    private static void newObject() {
        PlaneFaces p = new PlaneFaces();
        int[] due = {0, 0, 1, 0, 0, 0};
        for (int what = 0; what < due.length; what++) {
            CHECK.equal("new: count(" + what + ")", due[what], p.count(what));
        }
        CHECK.equal("NONE", -1, PlaneFaces.NONE);
        CHECK.equal("POINT", -100, PlaneFaces.POINT);
        CHECK.equal("new: clear", 0, p.clear());
        CHECK.equal("new: remove", false, p.remove(0));
        CHECK.equal("new: area(0)", 0, p.area(0));
        CHECK.equal("new: locate", 0, p.locate(-16000, 16000));
        CHECK.equal("new: above", -1, p.above(3, 4));
        CHECK.equal("new: across(0, 0)", 0, p.across(0, 0));
        int[] border = {0, 0, -1, 0, -1};
        for (int what = 0; what < border.length; what++) {
            CHECK.equal("new: border(0, " + what + ")", border[what], p.border(0, what));
        }
    }

    private static void addNumbers() {
        PlaneFaces p = new PlaneFaces();
        CHECK.equal("first add", 0, p.add(0, 0, 1, 1));
        CHECK.equal("second add", 1, p.add(5, 0, 6, 1));
        CHECK.equal("third add", 2, p.add(10, 0, 11, 1));
        p.remove(1);
        p.remove(0);
        CHECK.equal("add takes the least free", 0, p.add(20, 0, 21, 1));
        CHECK.equal("add takes the next free", 1, p.add(30, 0, 31, 1));
        CHECK.equal("add behind the last", 3, p.add(40, 0, 41, 1));
        CHECK.equal("begins of the reused number", 20, p.begins(0, false));
    }

    private static void refused(String why, int ax, int ay, int bx, int by) {
        PlaneFaces p = new PlaneFaces();
        p.add(0, 0, 10, 4);
        CHECK.equal("add " + why, PlaneFaces.NONE, p.add(ax, ay, bx, by));
        CHECK.equal("add backwards " + why, PlaneFaces.NONE, p.add(bx, by, ax, ay));
        CHECK.equal("count after add " + why, 1, p.count(0));
        CHECK.equal("ends after add " + why, 2, p.count(1));
        CHECK.outOfBounds("next(2) after add " + why, () -> p.next(2));
        CHECK.equal("number after add " + why, 1, p.add(100, 100, 101, 101));
    }

    private static void addRefusesWhatMeets() {
        refused("across the middle", 5, 0, 5, 9);
        refused("across not at a whole point", 4, 0, 4, 9);
        refused("the same", 0, 0, 10, 4);
        refused("from an end along it", 0, 0, 5, 2);
        refused("from an end along it and beyond", 0, 0, 15, 6);
        refused("over it", -5, -2, 15, 6);
        refused("over a part of it", 5, 2, 15, 6);
        refused("within it", 5, 2, 5, 3);
        refused("through its end", 10, 0, 10, 9);
        refused("through its other end", -1, 0, 1, 0);
        refused("from its middle aside", 5, 2, 20, -7);
    }

    private static void taken(String why, int ax, int ay, int bx, int by) {
        PlaneFaces p = new PlaneFaces();
        p.add(0, 0, 10, 4);
        CHECK.equal("add " + why, 1, p.add(ax, ay, bx, by));
    }

    private static void addTakesWhatMeetsAtEnds() {
        taken("on from its end in one line", 10, 4, 15, 6);
        taken("on to its begin in one line", -5, -2, 0, 0);
        taken("in one line apart", 15, 6, 20, 8);
        taken("back from its end", 10, 4, 0, 3);
        taken("up from its end", 10, 4, 10, 9);
        taken("beside it", 0, 1, 10, 5);
        taken("towards it but short of it", 5, 9, 5, 3);
        taken("one above its end", 0, 1, -9, 1);
    }

    private static void addWrongInputs() {
        PlaneFaces p = new PlaneFaces();
        CHECK.illegalArgument("add of a point", () -> p.add(3, 3, 3, 3));
        for (int far : new int[] {16001, -16001, Integer.MAX_VALUE, Integer.MIN_VALUE}) {
            CHECK.illegalArgument("add ax = " + far, () -> p.add(far, 0, 1, 1));
            CHECK.illegalArgument("add ay = " + far, () -> p.add(0, far, 1, 1));
            CHECK.illegalArgument("add bx = " + far, () -> p.add(0, 0, far, 1));
            CHECK.illegalArgument("add by = " + far, () -> p.add(0, 0, 1, far));
        }
        CHECK.equal("count after wrong adds", 0, p.count(0));
        CHECK.equal("add at the bounds", 0, p.add(-16000, 16000, 16000, -16000));
        CHECK.equal("add at the other bounds", PlaneFaces.NONE, p.add(-16000, -16000, 16000, 16000));
    }

    private static void addOrderOfExceptions() {
        PlaneFaces p = new PlaneFaces();
        Shapes.sixty(p);
        CHECK.illegalState("add of the 61st", () -> p.add(0, 100, 1, 101));
        CHECK.illegalState("add of the 61st that meets another", () -> p.add(0, 0, 5, 5));
        CHECK.illegalArgument("add of a point as the 61st", () -> p.add(3, 3, 3, 3));
        CHECK.illegalArgument("add out of bounds as the 61st", () -> p.add(0, 100, 1, 16001));
        CHECK.equal("count of 60", 60, p.count(0));
        CHECK.equal("pieces of 60", 60, p.count(3));
        p.remove(17);
        CHECK.equal("add in the gap that meets another", PlaneFaces.NONE, p.add(0, 0, 5, 5));
        CHECK.equal("add in the gap", 17, p.add(0, 100, 1, 101));
        CHECK.illegalState("add of the 61st again", () -> p.add(0, 200, 1, 201));
    }

    /** Products of coordinates at the bounds that leave the range of int. */
    private static void farCrossings() {
        PlaneFaces p = new PlaneFaces();
        p.add(-16000, -16000, 16000, 15999);
        CHECK.equal("add hard beside", 1, p.add(-16000, -15999, 16000, 16000));
        CHECK.equal("add between two far ones", 2, p.add(-16000, -16000, 16000, 16000));
        CHECK.equal("add across three far ones", PlaneFaces.NONE, p.add(-16000, 16000, 16000, -16000));
        CHECK.equal("add on a far one", PlaneFaces.NONE, p.add(1, 1, 2, 16000));
        CHECK.equal("add beside far ones", 3, p.add(1, 3, 2, 16000));
    }

    private static void remove() {
        PlaneFaces p = new PlaneFaces();
        Shapes.square(p, 0, 0, 10);
        CHECK.equal("remove of none", false, p.remove(4));
        CHECK.equal("remove of -1", false, p.remove(-1));
        CHECK.equal("remove of 60", false, p.remove(60));
        CHECK.equal("remove of the least int", false, p.remove(Integer.MIN_VALUE));
        CHECK.equal("remove of the greatest int", false, p.remove(Integer.MAX_VALUE));
        CHECK.equal("faces before remove", 2, p.count(2));
        CHECK.equal("remove", true, p.remove(2));
        CHECK.equal("remove again", false, p.remove(2));
        CHECK.equal("segments after remove", 3, p.count(0));
        CHECK.equal("faces after remove", 1, p.count(2));
        CHECK.equal("locate after remove", 0, p.locate(5, 5));
        CHECK.equal("above after remove", PlaneFaces.NONE, p.above(5, 5));
        CHECK.outOfBounds("next after remove", () -> p.next(4));
        CHECK.equal("add across what is gone", 2, p.add(5, 5, 5, 15));
    }

    private static void clear() {
        PlaneFaces p = new PlaneFaces();
        Shapes.square(p, 0, 0, 10);
        p.remove(0);
        CHECK.equal("ends before clear", 4, p.count(1));
        CHECK.equal("clear", 3, p.clear());
        CHECK.equal("ends after clear", 0, p.count(1));
        CHECK.equal("clear again", 0, p.clear());
        CHECK.equal("segments after clear", 0, p.count(0));
        CHECK.equal("faces after clear", 1, p.count(2));
        CHECK.equal("pieces after clear", 0, p.count(3));
        CHECK.outOfBounds("face(2) after clear", () -> p.face(2));
        CHECK.equal("add after clear", 0, p.add(5, -5, 5, 15));
    }
}
