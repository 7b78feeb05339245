import java.util.ArrayList;
import java.util.Arrays;
import java.util.List;
import java.util.TreeSet;

/**
 * Another way to the same answers: the plane cut into upright slabs at the ends, each slab into cells by the segments
 * that cross it, and cells joined where their common side is open. It knows of no rounds but for counting them.
 */
final class SlabModel {
    private static final double FAR = 1e6;
    private static final double TINY = 1e-10;

    /** Ends ax, ay, bx, by by segment; null where there is none. */
    private final int[][] ends = new int[60][];
    private double[] xs;
    private List<List<Integer>> slabs;
    private int[] firstCell;
    private int[] group;
    private int[] leftGroup;
    private int[] faceOf;
    private int[] nextOf;
    private int[] roundOf;
    private int[] pieceOf;
    private int faces;
    private int rounds;
    private int pieces;
    private List<Integer> groupOfFace;

    SlabModel() {
        settle();
    }

    Object add(int ax, int ay, int bx, int by) {
        if (!inBounds(ax, ay) || !inBounds(bx, by) || ax == bx && ay == by) {
            return "IllegalArgumentException";
        }
        int[] fresh = {ax, ay, bx, by};
        int free = Arrays.asList(ends).indexOf(null);
        if (free < 0) {
            return "IllegalStateException";
        }
        if (!hasRoom(fresh)) {
            return -1;
        }
        ends[free] = fresh;
        settle();
        return free;
    }

    boolean hasRoom(int[] fresh) {
        for (int[] other : ends) {
            if (other != null && meets(fresh, other)) {
                return false;
            }
        }
        return fresh[0] != fresh[2] || fresh[1] != fresh[3];
    }

    Object remove(int s) {
        if (s < 0 || s >= 60 || ends[s] == null) {
            return false;
        }
        ends[s] = null;
        settle();
        return true;
    }

    Object clear() {
        Object gone = count(0);
        Arrays.fill(ends, null);
        settle();
        return gone;
    }

    private static boolean inBounds(int x, int y) {
        return Math.abs((long) x) <= 16000 && Math.abs((long) y) <= 16000;
    }

    /** Solves for the common point as shares along both; in one line, compares the spans. */
    private static boolean meets(int[] p, int[] q) {
        long px = p[2] - p[0];
        long py = p[3] - p[1];
        long qx = q[2] - q[0];
        long qy = q[3] - q[1];
        long wx = q[0] - p[0];
        long wy = q[1] - p[1];
        long det = px * qy - py * qx;
        if (det == 0) {
            if (wx * py != wy * px) {
                return false;
            }
            long length = px * px + py * py;
            long a = wx * px + wy * py;
            long b = (wx + qx) * px + (wy + qy) * py;
            return Math.min(length, Math.max(a, b)) > Math.max(0, Math.min(a, b));
        }
        long t = (wx * qy - wy * qx) * Long.signum(det);
        long u = (wx * py - wy * px) * Long.signum(det);
        long whole = Math.abs(det);
        boolean common = t >= 0 && t <= whole && u >= 0 && u <= whole;
        return common && !((t == 0 || t == whole) && (u == 0 || u == whole));
    }

    private int x(int half) {
        return ends[half / 2][half % 2 * 2];
    }

    private int y(int half) {
        return ends[half / 2][half % 2 * 2 + 1];
    }

    private boolean upright(int s) {
        return ends[s][0] == ends[s][2];
    }

    private double heightAt(int s, double at) {
        int[] e = ends[s];
        return e[1] + (at - e[0]) * (e[3] - e[1]) / (e[2] - e[0]);
    }

    boolean hasHalf(int half) {
        return half >= 0 && half < 120 && ends[half / 2] != null;
    }

    private void settle() {
        cutSlabs();
        joinCells();
        numberFaces();
        follow();
        numberPieces();
    }

    private void cutSlabs() {
        TreeSet<Integer> found = new TreeSet<>();
        for (int h = 0; h < 120; h++) {
            if (hasHalf(h)) {
                found.add(x(h));
            }
        }
        xs = found.stream().mapToDouble(Integer::doubleValue).toArray();
        slabs = new ArrayList<>();
        firstCell = new int[xs.length + 2];
        for (int i = 0; i <= xs.length; i++) {
            List<Integer> over = new ArrayList<>();
            if (i > 0 && i < xs.length) {
                double mid = (xs[i - 1] + xs[i]) / 2;
                for (int s = 0; s < 60; s++) {
                    if (ends[s] != null && Math.min(ends[s][0], ends[s][2]) < mid && Math.max(ends[s][0], ends[s][2]) > mid) {
                        over.add(s);
                    }
                }
                over.sort((s, t) -> Double.compare(heightAt(s, mid), heightAt(t, mid)));
            }
            slabs.add(over);
            firstCell[i + 1] = firstCell[i] + over.size() + 1;
        }
    }

    private double low(int slab, int j, double at) {
        return j == 0 ? -FAR : heightAt(slabs.get(slab).get(j - 1), at);
    }

    private double high(int slab, int j, double at) {
        return j == slabs.get(slab).size() ? FAR : heightAt(slabs.get(slab).get(j), at);
    }

    private void joinCells() {
        int cells = firstCell[xs.length + 1];
        group = new int[cells];
        for (int c = 0; c < cells; c++) {
            group[c] = c;
        }
        for (int i = 0; i < xs.length; i++) {
            for (int j = 0; j <= slabs.get(i).size(); j++) {
                for (int k = 0; k <= slabs.get(i + 1).size(); k++) {
                    double from = Math.max(low(i, j, xs[i]), low(i + 1, k, xs[i]));
                    double to = Math.min(high(i, j, xs[i]), high(i + 1, k, xs[i]));
                    if (to - from > TINY && to - from - walled(xs[i], from, to) > TINY) {
                        join(firstCell[i] + j, firstCell[i + 1] + k);
                    }
                }
            }
        }
    }

    private double walled(double at, double from, double to) {
        double sum = 0;
        for (int s = 0; s < 60; s++) {
            if (ends[s] != null && upright(s) && ends[s][0] == at) {
                double a = Math.max(from, Math.min(ends[s][1], ends[s][3]));
                double b = Math.min(to, Math.max(ends[s][1], ends[s][3]));
                sum += Math.max(0, b - a);
            }
        }
        return sum;
    }

    private void join(int c, int d) {
        int a = group[c];
        int b = group[d];
        for (int e = 0; e < group.length; e++) {
            if (group[e] == a) {
                group[e] = b;
            }
        }
    }

    /** The group of the cell to the left of the line at xs[i], at height y, or to the right of it. */
    private int groupBeside(int i, double y, boolean right) {
        int slab = right ? i + 1 : i;
        for (int j = 0; j <= slabs.get(slab).size(); j++) {
            if (low(slab, j, xs[i]) < y && y < high(slab, j, xs[i])) {
                return group[firstCell[slab] + j];
            }
        }
        throw new AssertionError("no cell beside");
    }

    private int lineAt(double at) {
        return Arrays.binarySearch(xs, at);
    }

    private int groupLeftOf(int half) {
        int s = half / 2;
        if (upright(s)) {
            boolean up = y(half) < y(half ^ 1);
            return groupBeside(lineAt(x(half)), (y(half) + y(half ^ 1)) / 2.0, !up);
        }
        boolean right = x(half) < x(half ^ 1);
        int slab = lineAt(Math.min(x(half), x(half ^ 1))) + 1;
        int j = slabs.get(slab).indexOf(s);
        return group[firstCell[slab] + (right ? j + 1 : j)];
    }

    private void numberFaces() {
        faceOf = new int[120];
        leftGroup = new int[120];
        groupOfFace = new ArrayList<>();
        groupOfFace.add(group[0]);
        for (int h = 0; h < 120; h++) {
            if (hasHalf(h)) {
                leftGroup[h] = groupLeftOf(h);
                if (!groupOfFace.contains(leftGroup[h])) {
                    groupOfFace.add(leftGroup[h]);
                }
                faceOf[h] = groupOfFace.indexOf(leftGroup[h]);
            }
        }
        faces = groupOfFace.size();
    }

    private void follow() {
        nextOf = new int[120];
        roundOf = new int[120];
        Arrays.fill(roundOf, -1);
        for (int h = 0; h < 120; h++) {
            if (hasHalf(h)) {
                nextOf[h] = h ^ 1;
                double least = 10;
                for (int g = 0; g < 120; g++) {
                    if (hasHalf(g) && g != (h ^ 1) && x(g) == x(h ^ 1) && y(g) == y(h ^ 1)) {
                        double turned = (direction(h ^ 1) - direction(g) + 4 * Math.PI) % (2 * Math.PI);
                        if (turned < least) {
                            least = turned;
                            nextOf[h] = g;
                        }
                    }
                }
            }
        }
        rounds = 0;
        for (int h = 0; h < 120; h++) {
            if (hasHalf(h) && roundOf[h] < 0) {
                for (int g = h; roundOf[g] < 0; g = nextOf[g]) {
                    roundOf[g] = rounds;
                }
                rounds++;
            }
        }
    }

    private double direction(int half) {
        return Math.atan2(y(half ^ 1) - y(half), x(half ^ 1) - x(half));
    }

    private void numberPieces() {
        pieceOf = new int[60];
        Arrays.fill(pieceOf, -1);
        pieces = 0;
        for (int s = 0; s < 60; s++) {
            if (ends[s] != null && pieceOf[s] < 0) {
                flood(s, pieces);
                pieces++;
            }
        }
    }

    private void flood(int s, int piece) {
        pieceOf[s] = piece;
        for (int t = 0; t < 60; t++) {
            if (ends[t] != null && pieceOf[t] < 0 && shareEnd(ends[s], ends[t])) {
                flood(t, piece);
            }
        }
    }

    private static boolean shareEnd(int[] p, int[] q) {
        for (int i = 0; i < 4; i += 2) {
            for (int j = 0; j < 4; j += 2) {
                if (p[i] == q[j] && p[i + 1] == q[j + 1]) {
                    return true;
                }
            }
        }
        return false;
    }

    Object count(int what) {
        TreeSet<Long> points = new TreeSet<>();
        int segments = 0;
        int same = 0;
        for (int s = 0; s < 60; s++) {
            if (ends[s] != null) {
                segments++;
                same += faceOf[2 * s] == faceOf[2 * s + 1] ? 1 : 0;
                points.add(100000L * x(2 * s) + y(2 * s));
                points.add(100000L * x(2 * s + 1) + y(2 * s + 1));
            }
        }
        int[] all = {segments, points.size(), faces, pieces, same, rounds};
        return what >= 0 && what < 6 ? all[what] : -1;
    }

    private Object ofHalf(int half, int[] row) {
        return hasHalf(half) ? row[half] : "IndexOutOfBoundsException";
    }

    Object begins(int half, boolean y) {
        return !hasHalf(half) ? "IndexOutOfBoundsException" : y ? y(half) : x(half);
    }

    Object next(int half) {
        return ofHalf(half, nextOf);
    }

    Object face(int half) {
        return ofHalf(half, faceOf);
    }

    Object piece(int half) {
        return hasHalf(half) ? pieceOf[half / 2] : "IndexOutOfBoundsException";
    }

    /** Just left of a piece's leftmost end lies the face around it. */
    Object around(int piece) {
        if (piece < 0 || piece >= pieces) {
            return "IndexOutOfBoundsException";
        }
        return outside(piece);
    }

    private int outside(int piece) {
        int left = -1;
        for (int h = 0; h < 120; h++) {
            if (hasHalf(h) && pieceOf[h / 2] == piece && (left < 0 || x(h) < x(left))) {
                left = h;
            }
        }
        return groupOfFace.indexOf(groupBeside(lineAt(x(left)), y(left), false));
    }

    Object area(int face) {
        if (face < 0 || face >= faces) {
            return "IndexOutOfBoundsException";
        }
        double sum = 0;
        for (int i = 1; i < xs.length && face > 0; i++) {
            for (int j = 1; j < slabs.get(i).size(); j++) {
                if (group[firstCell[i] + j] == groupOfFace.get(face)) {
                    double left = high(i, j, xs[i - 1]) - low(i, j, xs[i - 1]);
                    double right = high(i, j, xs[i]) - low(i, j, xs[i]);
                    sum += (left + right) * (xs[i] - xs[i - 1]);
                }
            }
        }
        return (int) Math.round(sum);
    }

    Object border(int face, int what) {
        if (face < 0 || face >= faces) {
            return "IndexOutOfBoundsException";
        }
        TreeSet<Integer> its = new TreeSet<>();
        int halves = 0;
        int least = -1;
        for (int h = 119; h >= 0; h--) {
            if (hasHalf(h) && faceOf[h] == face) {
                its.add(roundOf[h]);
                halves++;
                least = h;
            }
        }
        int within = 0;
        for (int p = 0; p < pieces; p++) {
            within += outside(p) == face ? 1 : 0;
        }
        int[] all = {its.size(), halves, least, within};
        return what >= 0 && what < 4 ? all[what] : -1;
    }

    Object locate(int px, int py) {
        if (!inBounds(px, py)) {
            return "IllegalArgumentException";
        }
        for (int h = 0; h < 120; h++) {
            if (hasHalf(h) && x(h) == px && y(h) == py) {
                return -100 - h;
            }
        }
        for (int s = 0; s < 60; s++) {
            int[] e = ends[s];
            if (e != null && Math.min(e[0], e[2]) <= px && px <= Math.max(e[0], e[2])
                && Math.min(e[1], e[3]) <= py && py <= Math.max(e[1], e[3])
                && (long) (e[2] - e[0]) * (py - e[1]) == (long) (e[3] - e[1]) * (px - e[0])) {
                return -2 - s;
            }
        }
        int line = lineAt(px);
        if (line >= 0) {
            return groupOfFace.indexOf(groupBeside(line, py, false));
        }
        int slab = -line - 1;
        int j = 0;
        while (j < slabs.get(slab).size() && heightAt(slabs.get(slab).get(j), px) < py) {
            j++;
        }
        return groupOfFace.indexOf(group[firstCell[slab] + j]);
    }

    Object above(int px, int py) {
        if (!inBounds(px, py)) {
            return "IllegalArgumentException";
        }
        int first = -1;
        double least = FAR;
        for (int s = 0; s < 60; s++) {
            int[] e = ends[s];
            if (e != null && Math.min(e[0], e[2]) <= px && px <= Math.max(e[0], e[2])) {
                double met = upright(s) ? Math.max(py, Math.min(e[1], e[3])) : heightAt(s, px);
                boolean higher = upright(s) ? Math.max(e[1], e[3]) > py : met > py + TINY;
                if (higher && met < least - TINY) {
                    first = s;
                    least = met;
                }
            }
        }
        return first;
    }

    Object across(int from, int to) {
        if (from < 0 || from >= faces || to < 0 || to >= faces) {
            return "IndexOutOfBoundsException";
        }
        int[][] far = new int[faces][faces];
        for (int[] row : far) {
            Arrays.fill(row, 1000);
        }
        for (int f = 0; f < faces; f++) {
            far[f][f] = 0;
        }
        for (int s = 0; s < 60; s++) {
            if (ends[s] != null && faceOf[2 * s] != faceOf[2 * s + 1]) {
                far[faceOf[2 * s]][faceOf[2 * s + 1]] = 1;
                far[faceOf[2 * s + 1]][faceOf[2 * s]] = 1;
            }
        }
        for (int k = 0; k < faces; k++) {
            for (int i = 0; i < faces; i++) {
                for (int j = 0; j < faces; j++) {
                    far[i][j] = Math.min(far[i][j], far[i][k] + far[k][j]);
                }
            }
        }
        return far[from][to];
    }
}
