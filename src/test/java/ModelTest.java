/** All promises: long runs of calls, drawn by a fixed rule, answered by the class and by the slab model alike. */
public final class ModelTest {
    private static final Check CHECK = new Check("ModelTest");
    /** Half the width of the field, how far apart its points are, and whether they crowd at its middle and rim. */
    private static final int[][] FIELDS = {{2, 1, 0}, {4, 1, 0}, {6, 1, 0}, {8, 2000, 0}, {16, 1000, 0}, {16000, 1, 0},
        {40, 400, 0}, {100, 1, 0}, {16000, 1, 1}};

    /** Closed paths: a square, a diamond, a triangle, an arrow, a star. */
    private static final int[][] LOOPS = {{-4, -4, 4, -4, 4, 4, -4, 4}, {0, -4, 4, 0, 0, 4, -4, 0}, {-4, -3, 4, -4, 0, 4},
        {-4, -4, 0, -1, 4, -4, 0, 4}, {-4, -4, 0, -2, 4, -4, 2, 0, 4, 4, 0, 2, -4, 4, -2, 0}};

    private long state;
    private int[] loop = {};
    private int loopAt = 0;
    private final int half;
    private final int pitch;
    private final boolean crowded;
    /** How many of 512 later calls are adds, and how many of 100 adds begin a closed path. */
    private final int adds;
    private final int loops;
    /** One of so many other calls is a remove. */
    private final int removes;
    private final PlaneFaces plane = new PlaneFaces();
    private final SlabModel model = new SlabModel();

    private ModelTest(int seed) {
        state = 1000003L * seed + 17;
        int[] field = FIELDS[seed % FIELDS.length];
        half = field[0];
        pitch = field[1];
        crowded = field[2] == 1;
        adds = 60 + 100 * (seed / FIELDS.length % 3);
        loops = 30 * (seed / FIELDS.length % 4);
        removes = 12 + 30 * (seed / FIELDS.length % 5);
    }

    public static void main(String[] args) {
        int runs = args.length > 0 ? Integer.parseInt(args[0]) : 400;
        for (int seed = 0; seed < runs && CHECK.allRight(); seed++) {
            ModelTest run = new ModelTest(seed);
            for (int call = 0; call < 512 && CHECK.allRight(); call++) {
                run.call(call);
            }
        }
        CHECK.end();
    }

    private int below(int bound) {
        state = state * 6364136223846793005L + 1442695040888963407L;
        return (int) ((state >>> 33) % bound);
    }

    /** In a crowded field the segments between its points are long and lie closely side by side. */
    private int coordinate() {
        if (crowded) {
            return inField(half * (below(3) - 1) + below(7) - 3);
        }
        return pitch * (below(2 * half + 1) - half);
    }

    /** Often a point of the field, at times one beside it, seldom one out of bounds. */
    private int anyCoordinate() {
        int kind = below(40);
        if (kind == 0) {
            return below(2) == 0 ? 16001 : -16001;
        }
        return kind < 10 ? Math.max(-16000, Math.min(16000, coordinate() + below(5) - 2)) : coordinate();
    }

    private int number(int bound) {
        return below(20) == 0 ? below(200) - 40 : below(bound);
    }

    private int anyHalf() {
        return number(2 + 2 * (Integer) model.count(0));
    }

    private int anyFace() {
        return number((Integer) model.count(2));
    }

    private void add() {
        int[] e = loopAt < loop.length ? loopSide() : below(100) < loops ? startLoop() : below(3) == 0 ? joinEnds() : shortSegment();
        CHECK.equal("add(" + e[0] + ", " + e[1] + ", " + e[2] + ", " + e[3] + ")", model.add(e[0], e[1], e[2], e[3]),
            Check.answer(() -> plane.add(e[0], e[1], e[2], e[3])));
    }

    private int inField(int at) {
        return Math.max(-half * pitch, Math.min(half * pitch, at));
    }

    /** Mostly short segments, so that many fit in. */
    private int[] shortSegment() {
        int ax = below(60) == 0 ? anyCoordinate() : coordinate();
        int ay = coordinate();
        if (crowded || below(8) == 0) {
            return new int[] {ax, ay, coordinate(), coordinate()};
        }
        int reach = Math.max(1, half / 8);
        int bx = inField(ax + pitch * (below(2 * reach + 1) - reach));
        int by = inField(ay + pitch * (below(2 * reach + 1) - reach));
        return new int[] {ax, ay, bx, by};
    }

    /** From an end to another one or, at times, to a point near it. */
    private int[] joinEnds() {
        int from = anyHalf();
        int to = anyHalf();
        if (!model.hasHalf(from) || !model.hasHalf(to)) {
            return shortSegment();
        }
        int[] e = {(Integer) model.begins(from, false), (Integer) model.begins(from, true),
            (Integer) model.begins(to, false), (Integer) model.begins(to, true)};
        if (below(2) == 0) {
            int reach = Math.max(1, half / 8);
            e[2] = inField(e[0] + pitch * (below(2 * reach + 1) - reach));
            e[3] = inField(e[1] + pitch * (below(2 * reach + 1) - reach));
        }
        return e;
    }

    /** Begins a closed path whose sides are the next segments; of some tries the first that has room. */
    private int[] startLoop() {
        for (int tries = 0; tries < 20; tries++) {
            loop = closedPath();
            loopAt = 0;
            boolean room = true;
            while (loopAt < loop.length) {
                room &= model.hasRoom(loopSide());
            }
            if (room) {
                break;
            }
        }
        loopAt = 0;
        return loopSide();
    }

    /** From any of its corners and either way round; often around the middle, so that they nest. */
    private int[] closedPath() {
        int[] shape = LOOPS[below(LOOPS.length)];
        int corners = shape.length / 2;
        boolean nested = below(2) == 0;
        int x = nested ? 0 : coordinate();
        int y = nested ? 0 : coordinate();
        int size = Math.max(1, (half - below(1 + half / 8)) >> below(5));
        int from = below(corners);
        int way = below(2) == 0 ? 1 : corners - 1;
        int[] path = new int[2 * corners + 2];
        for (int i = 0; i <= corners; i++) {
            int corner = (from + i * way) % corners;
            path[2 * i] = inField(x + pitch * (shape[2 * corner] * size / 4));
            path[2 * i + 1] = inField(y + pitch * (shape[2 * corner + 1] * size / 4));
        }
        return path;
    }

    private int[] loopSide() {
        int[] e = {loop[loopAt], loop[loopAt + 1], loop[loopAt + 2], loop[loopAt + 3]};
        loopAt = loopAt + 4 < loop.length ? loopAt + 2 : loop.length;
        return e;
    }

    private void call(int index) {
        if (below(512) < (index < 60 ? 400 : adds)) {
            add();
        } else if (below(removes) == 0) {
            int s = number(1 + (Integer) model.count(0));
            CHECK.equal("remove(" + s + ")", model.remove(s), Check.answer(() -> plane.remove(s)));
        } else if (below(400) == 0) {
            CHECK.equal("clear()", model.clear(), Check.answer(plane::clear));
        } else {
            ask(below(12));
        }
    }

    private void ask(int kind) {
        int x = anyCoordinate();
        int y = anyCoordinate();
        int h = anyHalf();
        int f = anyFace();
        int g = anyFace();
        int what = below(8) - 1;
        int p = number(1 + (Integer) model.count(3));
        switch (kind) {
            case 0 -> CHECK.equal("count(" + what + ")", model.count(what), Check.answer(() -> plane.count(what)));
            case 1 -> CHECK.equal("begins(" + h + ", true)", model.begins(h, true), Check.answer(() -> plane.begins(h, true)));
            case 2 -> CHECK.equal("begins(" + h + ", false)", model.begins(h, false), Check.answer(() -> plane.begins(h, false)));
            case 3 -> CHECK.equal("next(" + h + ")", model.next(h), Check.answer(() -> plane.next(h)));
            case 4 -> CHECK.equal("face(" + h + ")", model.face(h), Check.answer(() -> plane.face(h)));
            case 5 -> CHECK.equal("piece(" + h + ")", model.piece(h), Check.answer(() -> plane.piece(h)));
            case 6 -> CHECK.equal("around(" + p + ")", model.around(p), Check.answer(() -> plane.around(p)));
            case 7 -> CHECK.equal("area(" + f + ")", model.area(f), Check.answer(() -> plane.area(f)));
            case 8 -> CHECK.equal("border(" + f + ", " + what + ")", model.border(f, what), Check.answer(() -> plane.border(f, what)));
            case 9 -> CHECK.equal("across(" + f + ", " + g + ")", model.across(f, g), Check.answer(() -> plane.across(f, g)));
            case 10 -> CHECK.equal("locate(" + x + ", " + y + ")", model.locate(x, y), Check.answer(() -> plane.locate(x, y)));
            default -> CHECK.equal("above(" + x + ", " + y + ")", model.above(x, y), Check.answer(() -> plane.above(x, y)));
        }
    }
}
