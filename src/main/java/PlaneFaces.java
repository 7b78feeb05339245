import java.util.Arrays;

/** Segments in the plane that meet at their ends only, and the faces between them. */
public final class PlaneFaces {
    public static final int NONE = -1;
    public static final int POINT = -100;

    private static final int SEGMENTS = 60;
    private static final int HALVES = 2 * SEGMENTS;
    private static final int REACH = 16000;
    private static final int ON_SEGMENT = -2;

    private final Segments segments;
    private final Rounds rounds;
    private final Faces faces;
    private boolean stale;

    public PlaneFaces() {
        faces = new Faces();
        rounds = faces.rounds;
        segments = rounds.segments;
        stale = false;
    }

    public int add(int ax, int ay, int bx, int by) throws IllegalArgumentException, IllegalStateException {
        requirePlace(ax, ay);
        requirePlace(bx, by);
        if (ax == bx && ay == by) {
            throw new IllegalArgumentException("the ends are the same");
        }
        int s = segments.leastFree();
        if (s == NONE) {
            throw new IllegalStateException("there are 60 segments");
        }
        segments.draw(s, ax, ay, bx, by);
        if (segments.clashes(s)) {
            return NONE;
        }
        segments.keep(s);
        stale = true;
        return s;
    }

    public boolean remove(int s) {
        if (!segments.has(s)) {
            return false;
        }
        segments.drop(s);
        stale = true;
        return true;
    }

    public int clear() {
        int gone = segments.size;
        segments.dropAll();
        stale = true;
        return gone;
    }

    public int count(int what) {
        refresh();
        switch (what) {
            case 0:
                return segments.size;
            case 1:
                return rounds.corners();
            case 2:
                return faces.size;
            case 3:
                return rounds.pieces;
            case 4:
                return faces.bridges();
            case 5:
                return rounds.size;
            default:
                return NONE;
        }
    }

    public int begins(int half, boolean y) throws IndexOutOfBoundsException {
        requireHalf(half);
        return y ? segments.y[half] : segments.x[half];
    }

    public int next(int half) throws IndexOutOfBoundsException {
        requireHalf(half);
        refresh();
        return rounds.following[half];
    }

    public int face(int half) throws IndexOutOfBoundsException {
        requireHalf(half);
        refresh();
        return faces.faceOf[half];
    }

    public int piece(int half) throws IndexOutOfBoundsException {
        requireHalf(half);
        refresh();
        return rounds.pieceOf[half >> 1];
    }

    public int around(int piece) throws IndexOutOfBoundsException {
        refresh();
        if (piece < 0 || piece >= rounds.pieces) {
            throw new IndexOutOfBoundsException("no such piece");
        }
        return faces.outside[piece];
    }

    public int area(int face) throws IndexOutOfBoundsException {
        refresh();
        requireFace(face);
        return face == 0 ? 0 : (int) faces.twiceArea(face);
    }

    public int border(int face, int what) throws IndexOutOfBoundsException {
        refresh();
        requireFace(face);
        switch (what) {
            case 0:
                return faces.roundsOf(face);
            case 1:
                return faces.halvesOf(face);
            case 2:
                return faces.leastHalfOf(face);
            case 3:
                return faces.piecesIn(face);
            default:
                return NONE;
        }
    }

    public int locate(int x, int y) throws IllegalArgumentException {
        requirePlace(x, y);
        refresh();
        int half = segments.leastHalfAt(x, y);
        if (half != NONE) {
            return POINT - half;
        }
        int s = segments.segmentThrough(x, y);
        if (s != NONE) {
            return ON_SEGMENT - s;
        }
        return faces.faceWithin(rounds.enclosing(x, y, NONE));
    }

    public int above(int x, int y) throws IllegalArgumentException {
        requirePlace(x, y);
        return segments.firstUpFrom(x, y);
    }

    public int across(int from, int to) throws IndexOutOfBoundsException {
        refresh();
        requireFace(from);
        requireFace(to);
        return faces.crossings(from, to);
    }

    /** What follows from the segments is worked out when it is asked for, so that a run of adds costs it once. */
    private void refresh() {
        if (stale) {
            rounds.trace();
            faces.findHomes();
            faces.numberFaces();
            faces.findOutsides();
            stale = false;
        }
    }

    private void requireHalf(int half) {
        if (!segments.has(half >> 1)) {
            throw new IndexOutOfBoundsException("no such half");
        }
    }

    private void requireFace(int face) {
        if (face < 0 || face >= faces.size) {
            throw new IndexOutOfBoundsException("no such face");
        }
    }

    private static void requirePlace(int x, int y) {
        if (x < -REACH || x > REACH || y < -REACH || y > REACH) {
            throw new IllegalArgumentException("a coordinate is out of bounds");
        }
    }

    /** The segments by their halves: half h begins at (x[h], y[h]), and h ^ 1 is its way back. */
    private static final class Segments {
        final int[] x = new int[HALVES];
        final int[] y = new int[HALVES];
        final boolean[] used = new boolean[SEGMENTS];
        int size = 0;

        boolean has(int s) {
            return s >= 0 && s < SEGMENTS && used[s];
        }

        int leastFree() {
            for (int s = 0; s < SEGMENTS; s++) {
                if (!used[s]) {
                    return s;
                }
            }
            return NONE;
        }

        /** Writes the ends of a free number; it is no segment before it is kept. */
        void draw(int s, int ax, int ay, int bx, int by) {
            x[2 * s] = ax;
            y[2 * s] = ay;
            x[2 * s + 1] = bx;
            y[2 * s + 1] = by;
        }

        void keep(int s) {
            used[s] = true;
            size++;
        }

        void drop(int s) {
            used[s] = false;
            size--;
        }

        void dropAll() {
            for (int s = 0; s < SEGMENTS; s++) {
                used[s] = false;
            }
            size = 0;
        }

        /** Whether what is drawn as s has more in common with a segment than an end of both. */
        boolean clashes(int s) {
            for (int t = 0; t < SEGMENTS; t++) {
                if (used[t] && (touches(s, t) || touches(t, s) || sameEnds(s, t) || crosses(s, t))) {
                    return true;
                }
            }
            return false;
        }

        private boolean touches(int s, int t) {
            return holds(s, x[2 * t], y[2 * t]) || holds(s, x[2 * t + 1], y[2 * t + 1]);
        }

        private boolean sameEnds(int s, int t) {
            return sameBegin(2 * s, 2 * t) && sameBegin(2 * s + 1, 2 * t + 1)
                || sameBegin(2 * s, 2 * t + 1) && sameBegin(2 * s + 1, 2 * t);
        }

        private boolean crosses(int s, int t) {
            return parts(2 * s, 2 * t) && parts(2 * t, 2 * s);
        }

        /** Whether the ends of g's segment lie on different sides of the line along h. */
        private boolean parts(int h, int g) {
            long begin = side(h, x[g], y[g]);
            long end = side(h, x[g ^ 1], y[g ^ 1]);
            return begin < 0 && end > 0 || begin > 0 && end < 0;
        }

        boolean sameBegin(int g, int h) {
            return x[g] == x[h] && y[g] == y[h];
        }

        /** Above 0 if the place lies to the left of the line along the half, 0 if on it. */
        private long side(int half, int px, int py) {
            long dx = x[half ^ 1] - x[half];
            long dy = y[half ^ 1] - y[half];
            return dx * (py - y[half]) - dy * (px - x[half]);
        }

        /** Whether the place lies on the segment, but at no end. */
        private boolean holds(int s, int px, int py) {
            if (side(2 * s, px, py) != 0) {
                return false;
            }
            long ax = x[2 * s] - px;
            long ay = y[2 * s] - py;
            return ax * (x[2 * s + 1] - px) + ay * (y[2 * s + 1] - py) < 0;
        }

        int leastHalfAt(int px, int py) {
            for (int h = 0; h < HALVES; h++) {
                if (used[h >> 1] && x[h] == px && y[h] == py) {
                    return h;
                }
            }
            return NONE;
        }

        int segmentThrough(int px, int py) {
            for (int s = 0; s < SEGMENTS; s++) {
                if (used[s] && holds(s, px, py)) {
                    return s;
                }
            }
            return NONE;
        }

        /** Above 0 if one turns left from the direction of g to that of h by less than half a turn. */
        private long turn(int g, int h) {
            long dx = x[g ^ 1] - x[g];
            long dy = y[g ^ 1] - y[g];
            return dx * (y[h ^ 1] - y[h]) - dy * (x[h ^ 1] - x[h]);
        }

        /** Of two halves that leave a point with back: whether one who turns clockwise from back meets g first. */
        boolean sooner(int back, int g, int h) {
            int sideG = signOf(turn(back, g));
            int sideH = signOf(turn(back, h));
            return sideG == sideH ? turn(g, h) < 0 : sideG < sideH;
        }

        private static int signOf(long value) {
            return value < 0 ? -1 : value > 0 ? 1 : 0;
        }

        /** The part of a half in twice the area to the left of its round. */
        long sweep(int half) {
            return (long) x[half] * y[half ^ 1] - (long) x[half ^ 1] * y[half];
        }

        private int rightward(int s) {
            return x[2 * s] <= x[2 * s + 1] ? 2 * s : 2 * s + 1;
        }

        /**
         * Whether the way straight up from a place off the segment crosses it. Its right end does not count, so that
         * two segments that meet above the place count once if they go on, and twice or not at all if they turn.
         */
        boolean roofs(int s, int px, int py) {
            int half = rightward(s);
            return x[half] <= px && px < x[half ^ 1] && side(half, px, py) < 0;
        }

        int firstUpFrom(int px, int py) {
            int first = NONE;
            long firstHeight = 0;
            long firstWidth = 1;
            for (int s = 0; s < SEGMENTS; s++) {
                if (used[s] && reachesAbove(s, px, py)) {
                    long height = height(s, px, py);
                    long width = width(s);
                    if (first == NONE || height * firstWidth < firstHeight * width) {
                        first = s;
                        firstHeight = height;
                        firstWidth = width;
                    }
                }
            }
            return first;
        }

        /** Whether the segment has a place straight above this one. */
        private boolean reachesAbove(int s, int px, int py) {
            int half = rightward(s);
            if (px < x[half] || px > x[half ^ 1]) {
                return false;
            }
            if (x[half] == x[half ^ 1]) {
                return Math.max(y[half], y[half ^ 1]) > py;
            }
            return side(half, px, py) < 0;
        }

        /** How high one meets a segment that reaches above the place, times its width to stay whole. */
        private long height(int s, int px, int py) {
            int half = rightward(s);
            long dx = x[half ^ 1] - x[half];
            if (dx == 0) {
                return Math.max(py, Math.min(y[half], y[half ^ 1]));
            }
            long dy = y[half ^ 1] - y[half];
            return y[half] * dx + dy * (px - x[half]);
        }

        private long width(int s) {
            return Math.max(1, Math.abs(x[2 * s + 1] - x[2 * s]));
        }
    }

    /** How the halves hang together: by points, by pieces and by rounds. */
    private static final class Rounds {
        final Segments segments = new Segments();
        /** The least half that begins where a half begins: it stands for the point. */
        private final int[] corner = new int[HALVES];
        final int[] following = new int[HALVES];
        /** The least segment of a segment's piece. */
        private final int[] root = new int[SEGMENTS];
        final int[] pieceOf = new int[SEGMENTS];
        int pieces = 0;
        final int[] roundOf = new int[HALVES];
        /** The least half of a round. */
        final int[] start = new int[HALVES];
        /** Twice the area to the left of a round; not above 0 for the one that runs around its piece. */
        final long[] twice = new long[HALVES];
        private final int[] odd = new int[HALVES];
        int size = 0;

        void trace() {
            findCorners();
            for (int h = 0; h < HALVES; h++) {
                following[h] = segments.used[h >> 1] ? firstClockwise(h ^ 1) : NONE;
            }
            joinPieces();
            numberPieces();
            walkRounds();
        }

        private void findCorners() {
            for (int h = 0; h < HALVES; h++) {
                corner[h] = segments.used[h >> 1] ? segments.leastHalfAt(segments.x[h], segments.y[h]) : NONE;
            }
        }

        int corners() {
            int found = 0;
            for (int h = 0; h < HALVES; h++) {
                if (segments.used[h >> 1] && corner[h] == h) {
                    found++;
                }
            }
            return found;
        }

        private int firstClockwise(int back) {
            int first = back;
            for (int h = 0; h < HALVES; h++) {
                boolean candidate = corner[h] == corner[back] && h != back;
                if (candidate && (first == back || segments.sooner(back, h, first))) {
                    first = h;
                }
            }
            return first;
        }

        private void joinPieces() {
            for (int s = 0; s < SEGMENTS; s++) {
                root[s] = s;
            }
            for (int h = 0; h < HALVES; h++) {
                if (segments.used[h >> 1]) {
                    joinRoots(root[h >> 1], root[corner[h] >> 1]);
                }
            }
        }

        private void joinRoots(int a, int b) {
            if (a == b) {
                return;
            }
            for (int s = 0; s < SEGMENTS; s++) {
                if (root[s] == Math.max(a, b)) {
                    root[s] = Math.min(a, b);
                }
            }
        }

        private void numberPieces() {
            pieces = 0;
            for (int s = 0; s < SEGMENTS; s++) {
                if (segments.used[s] && root[s] == s) {
                    pieceOf[s] = pieces;
                    pieces++;
                } else {
                    pieceOf[s] = segments.used[s] ? pieceOf[root[s]] : NONE;
                }
            }
        }

        private void walkRounds() {
            Arrays.fill(roundOf, NONE);
            size = 0;
            for (int h = 0; h < HALVES; h++) {
                if (segments.used[h >> 1] && roundOf[h] == NONE) {
                    walk(h);
                    size++;
                }
            }
        }

        private void walk(int first) {
            start[size] = first;
            twice[size] = 0;
            int half = first;
            for (int step = 0; step < HALVES && roundOf[half] == NONE; step++) {
                roundOf[half] = size;
                twice[size] += segments.sweep(half);
                half = following[half];
            }
        }

        int pieceOfRound(int round) {
            return pieceOf[start[round] >> 1];
        }

        /**
         * The innermost round, but for those of one piece, that runs around a place on none of the others; NONE if
         * there is none. Rounds around one place lie within one another, so the innermost has the least area.
         */
        int enclosing(int px, int py, int exceptPiece) {
            markOddRounds(px, py);
            int best = NONE;
            for (int r = 0; r < size; r++) {
                boolean encloses = odd[r] == 1 && twice[r] > 0 && pieceOfRound(r) != exceptPiece;
                if (encloses && (best == NONE || twice[r] < twice[best])) {
                    best = r;
                }
            }
            return best;
        }

        /** A way straight up crosses a round an odd number of times if it comes from within it. */
        private void markOddRounds(int px, int py) {
            Arrays.fill(odd, 0);
            for (int s = 0; s < SEGMENTS; s++) {
                if (segments.used[s] && segments.roofs(s, px, py)) {
                    odd[roundOf[2 * s]] ^= 1;
                    odd[roundOf[2 * s + 1]] ^= 1;
                }
            }
        }
    }

    /** The faces: each but face 0 has one round that runs around it, and the outer rounds of the pieces in it. */
    private static final class Faces {
        final Rounds rounds = new Rounds();
        private final Segments segments = rounds.segments;
        /** The round that runs around the face to the left of a round; NONE for face 0. */
        private final int[] home = new int[HALVES];
        /** The face that a round runs around; 0 for a round that runs around its piece. */
        private final int[] number = new int[HALVES];
        final int[] faceOf = new int[HALVES];
        /** The face around a piece. */
        final int[] outside = new int[SEGMENTS];
        private final int[] steps = new int[HALVES + 1];
        int size = 1;

        /** All of a piece lies in one face of the others, so any of its points tells where it is at home. */
        void findHomes() {
            for (int r = 0; r < rounds.size; r++) {
                int half = rounds.start[r];
                home[r] = rounds.twice[r] > 0 ? r
                    : rounds.enclosing(segments.x[half], segments.y[half], rounds.pieceOfRound(r));
            }
        }

        void numberFaces() {
            Arrays.fill(number, 0);
            size = 1;
            for (int h = 0; h < HALVES; h++) {
                if (segments.used[h >> 1]) {
                    int round = home[rounds.roundOf[h]];
                    if (round != NONE && number[round] == 0) {
                        number[round] = size;
                        size++;
                    }
                    faceOf[h] = faceWithin(round);
                } else {
                    faceOf[h] = NONE;
                }
            }
        }

        void findOutsides() {
            for (int r = 0; r < rounds.size; r++) {
                if (home[r] != r) {
                    outside[rounds.pieceOfRound(r)] = faceOf[rounds.start[r]];
                }
            }
        }

        int faceWithin(int round) {
            return round == NONE ? 0 : number[round];
        }

        int bridges() {
            int found = 0;
            for (int s = 0; s < SEGMENTS; s++) {
                if (segments.used[s] && faceOf[2 * s] == faceOf[2 * s + 1]) {
                    found++;
                }
            }
            return found;
        }

        long twiceArea(int face) {
            long sum = 0;
            for (int r = 0; r < rounds.size; r++) {
                if (faceOf[rounds.start[r]] == face) {
                    sum += rounds.twice[r];
                }
            }
            return sum;
        }

        int roundsOf(int face) {
            int found = 0;
            for (int r = 0; r < rounds.size; r++) {
                if (faceOf[rounds.start[r]] == face) {
                    found++;
                }
            }
            return found;
        }

        int halvesOf(int face) {
            int found = 0;
            for (int h = 0; h < HALVES; h++) {
                if (segments.used[h >> 1] && faceOf[h] == face) {
                    found++;
                }
            }
            return found;
        }

        int leastHalfOf(int face) {
            for (int h = 0; h < HALVES; h++) {
                if (segments.used[h >> 1] && faceOf[h] == face) {
                    return h;
                }
            }
            return NONE;
        }

        int piecesIn(int face) {
            int found = 0;
            for (int p = 0; p < rounds.pieces; p++) {
                if (outside[p] == face) {
                    found++;
                }
            }
            return found;
        }

        int crossings(int from, int to) {
            Arrays.fill(steps, NONE);
            steps[from] = 0;
            for (int far = 0; far < size && steps[to] == NONE; far++) {
                for (int s = 0; s < SEGMENTS; s++) {
                    if (segments.used[s]) {
                        cross(faceOf[2 * s], faceOf[2 * s + 1], far);
                        cross(faceOf[2 * s + 1], faceOf[2 * s], far);
                    }
                }
            }
            return steps[to];
        }

        private void cross(int near, int beyond, int far) {
            if (steps[near] == far && steps[beyond] == NONE) {
                steps[beyond] = far + 1;
            }
        }
    }
}
