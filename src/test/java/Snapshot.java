import java.util.function.Consumer;

/**
 * All that an object answers after some calls, as one text. Each group of questions has an object of its own, so that
 * none is used for more than 512 calls; the calls before must be fewer than 150.
 */
final class Snapshot {
    private final Consumer<PlaneFaces> calls;
    private final StringBuilder text = new StringBuilder();

    private Snapshot(Consumer<PlaneFaces> calls) {
        this.calls = calls;
    }

    static String of(Consumer<PlaneFaces> calls) {
        Snapshot all = new Snapshot(calls);
        all.counts();
        all.begins();
        all.halves();
        all.faces();
        all.places(0);
        all.places(1);
        return all.text.toString();
    }

    private PlaneFaces made() {
        PlaneFaces plane = new PlaneFaces();
        calls.accept(plane);
        return plane;
    }

    private void note(String call, Object answer) {
        text.append(call).append(" = ").append(answer).append("; ");
    }

    private void counts() {
        PlaneFaces p = made();
        for (int what = 0; what < 6; what++) {
            note("count " + what, p.count(what));
        }
        for (int piece = 0; piece <= 60; piece++) {
            int asked = piece;
            note("around " + piece, Check.answer(() -> p.around(asked)));
        }
    }

    private void begins() {
        PlaneFaces p = made();
        for (int h = 0; h < 120; h++) {
            int half = h;
            note("x of " + h, Check.answer(() -> p.begins(half, false)));
            note("y of " + h, Check.answer(() -> p.begins(half, true)));
        }
    }

    private void halves() {
        PlaneFaces p = made();
        for (int h = 0; h < 120; h++) {
            int half = h;
            note("next of " + h, Check.answer(() -> p.next(half)));
            note("face of " + h, Check.answer(() -> p.face(half)));
            note("piece of " + h, Check.answer(() -> p.piece(half)));
        }
    }

    private void faces() {
        PlaneFaces p = made();
        for (int f = 0; f <= 41; f++) {
            int face = f;
            note("area " + f, Check.answer(() -> p.area(face)));
            for (int w = 0; w < 4; w++) {
                int what = w;
                note("border " + f + " " + w, Check.answer(() -> p.border(face, what)));
            }
            note("across 0 to " + f, Check.answer(() -> p.across(0, face)));
            note("across " + f + " to 1", Check.answer(() -> p.across(face, 1)));
        }
    }

    /** The places of the ends, and those so far below them. */
    private void places(int below) {
        PlaneFaces p = made();
        PlaneFaces ends = made();
        for (int h = 0; h < 120; h++) {
            int half = h;
            if (Check.answer(() -> ends.begins(half, false)) instanceof Integer) {
                int x = ends.begins(h, false);
                int y = ends.begins(h, true) - below;
                note("locate " + h + " less " + below, Check.answer(() -> p.locate(x, y)));
                note("above " + h + " less " + below, Check.answer(() -> p.above(x, y)));
            }
        }
    }
}
