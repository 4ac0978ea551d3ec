import java.util.Arrays;
import java.util.NoSuchElementException;

/**
 * Lines of one height over a field of numbers, stitched to chains with the higher ground at their
 * left.
 *
 * <p>A cell's corners and sides are counted against the clock: corners a, b, c, d are 0 to 3, and
 * side i goes from corner i to corner i + 1, so that bottom, right, top and left are 0 to 3.
 */
public final class HeightLines {
    public static final int NONE = -1;

    private static final int LEAST_SIDE = 2;
    private static final int MOST_SIDE = 12;
    private static final int MOST_SAMPLE = 1000000;
    private static final int MOST_TWICE = 1999999;
    private static final int MOST_SAMPLES = MOST_SIDE * MOST_SIDE;
    private static final int MOST_EDGES = 2 * MOST_SIDE * (MOST_SIDE - 1);
    // A chain has at least one line, so at least two edges.
    private static final int MOST_CHAINS = MOST_EDGES / 2;
    // Euclid's steps for numbers up to 4000000 are fewer than 40.
    private static final int MOST_DIVISIONS = 64;

    private static final int CORNERS = 4;
    private static final int ONWARD = 1;
    private static final int BACKWARD = 3;
    private static final int A_AND_C = 0b0101;
    private static final int B_AND_D = 0b1010;

    private int columns;
    private int rows;
    private int twiceHeight;
    private final int[] samples;

    // The lines as they were when the chains were made: to which edge one leads, from which it came.
    private final int[] next;
    private final int[] before;

    // The chains as they were made: their edges one chain behind the other, where each chain starts
    // among these (and behind the last one where it ends), and to which chain an edge belongs.
    private final int[] order;
    private final int[] starts;
    private final int[] owner;
    private int openChains;
    private int chains;

    public HeightLines() {
        columns = LEAST_SIDE;
        rows = LEAST_SIDE;
        twiceHeight = 1;
        samples = new int[MOST_SAMPLES];
        next = new int[MOST_EDGES];
        before = new int[MOST_EDGES];
        order = new int[MOST_EDGES];
        starts = new int[MOST_CHAINS + 1];
        owner = new int[MOST_EDGES];
        openChains = 0;
        chains = 0;
    }

    public boolean field(int w, int h) {
        if (!isSide(w) || !isSide(h)) {
            return false;
        }
        columns = w;
        rows = h;
        Arrays.fill(samples, 0);
        forgetChains();
        return true;
    }

    public boolean set(int x, int y, int v) {
        if (x < 0 || x >= columns || !hasRow(y) || v != heldToBounds(v)) {
            return false;
        }
        samples[sampleAt(x, y)] = v;
        return true;
    }

    public boolean row(int y, int from, int step) {
        if (!hasRow(y)) {
            return false;
        }
        for (int x = 0; x < columns; x++) {
            // In long, since from + x * step may lie far outside of int.
            samples[sampleAt(x, y)] = heldToBounds(from + (long) x * step);
        }
        return true;
    }

    public boolean height(int twice) {
        boolean odd = (twice & 1) == 1;
        if (!odd || twice < -MOST_TWICE || twice > MOST_TWICE) {
            return false;
        }
        twiceHeight = twice;
        return true;
    }

    public int make() {
        forgetChains();
        drawLines();
        gatherOpenChains();
        gatherClosedChains();
        return chains;
    }

    public int size(int chain) {
        return hasChain(chain) ? starts[chain + 1] - starts[chain] : NONE;
    }

    public boolean isClosed(int chain) {
        return hasChain(chain) && chain >= openChains;
    }

    public int edge(int chain, int i) {
        // A chain that there isn't has the size NONE, which is below every i.
        return i >= 0 && i < size(chain) ? order[starts[chain] + i] : NONE;
    }

    public int crossing(int edge, int what) throws NoSuchElementException {
        if (edge < 0 || edge >= edgeCount() || !isCrossed(edge) || what < 0 || what > 1) {
            throw new NoSuchElementException();
        }
        int first = samples[firstSample(edge)];
        int second = samples[secondSample(edge)];
        // The height lies between the two, so both differences have one sign.
        int upper = Math.abs(twiceHeight - 2 * first);
        int lower = Math.abs(2 * (second - first));
        return (what == 0 ? upper : lower) / greatestDivisor(upper, lower);
    }

    public int within(int chain) {
        if (!isClosed(chain)) {
            return NONE;
        }
        int count = 0;
        for (int y = 0; y < rows; y++) {
            count += withinInRow(chain, y);
        }
        return count;
    }

    public int crossed() {
        int count = 0;
        for (int edge = 0; edge < edgeCount(); edge++) {
            if (isCrossed(edge)) {
                count++;
            }
        }
        return count;
    }

    // Numbers and bounds

    private static boolean isSide(int length) {
        return length >= LEAST_SIDE && length <= MOST_SIDE;
    }

    private static int heldToBounds(long value) {
        return (int) Math.max(-MOST_SAMPLE, Math.min(MOST_SAMPLE, value));
    }

    /** Of two numbers above 0. */
    private static int greatestDivisor(int one, int other) {
        int divisor = one;
        int rest = other;
        for (int n = 0; n < MOST_DIVISIONS && rest != 0; n++) {
            int left = divisor % rest;
            divisor = rest;
            rest = left;
        }
        return divisor;
    }

    // Samples and edges

    private boolean hasRow(int y) {
        return y >= 0 && y < rows;
    }

    private int sampleAt(int x, int y) {
        return y * columns + x;
    }

    private boolean isAbove(int sample) {
        return 2 * samples[sample] > twiceHeight;
    }

    private int rightwardEdges() {
        return rows * (columns - 1);
    }

    private int edgeCount() {
        return rightwardEdges() + (rows - 1) * columns;
    }

    private int rightwardEdge(int x, int y) {
        return y * (columns - 1) + x;
    }

    private int upwardEdge(int x, int y) {
        return rightwardEdges() + y * columns + x;
    }

    private int firstSample(int edge) {
        if (edge >= rightwardEdges()) {
            return edge - rightwardEdges();
        }
        // Each row has one sample more than it has edges; a field has at least two columns.
        return edge + edge / (columns - 1);
    }

    private int secondSample(int edge) {
        return firstSample(edge) + (edge < rightwardEdges() ? 1 : columns);
    }

    private boolean isCrossed(int edge) {
        return isAbove(firstSample(edge)) != isAbove(secondSample(edge));
    }

    // Lines through cells

    private void drawLines() {
        Arrays.fill(next, NONE);
        Arrays.fill(before, NONE);
        for (int y = 0; y + 1 < rows; y++) {
            for (int x = 0; x + 1 < columns; x++) {
                drawCell(x, y);
            }
        }
    }

    private void drawCell(int x, int y) {
        int above = cornersAbove(x, y);
        boolean fourCrossed = above == A_AND_C || above == B_AND_D;
        // A line that turns onward cuts off the corner below that comes behind its first side, one
        // that turns backward the corner above before it; of two crossed sides both find the same.
        int turn = fourCrossed && isMiddleAbove(x, y) ? ONWARD : BACKWARD;
        for (int side = 0; side < CORNERS; side++) {
            if (entersAt(above, side)) {
                int from = sideEdge(x, y, side);
                int to = sideEdge(x, y, exitFrom(above, side, turn));
                next[from] = to;
                before[to] = from;
            }
        }
    }

    /** Bit i is set when corner i is above. */
    private int cornersAbove(int x, int y) {
        int above = 0;
        for (int corner = 0; corner < CORNERS; corner++) {
            if (isAbove(cornerSample(x, y, corner))) {
                above |= 1 << corner;
            }
        }
        return above;
    }

    private int cornerSample(int x, int y, int corner) {
        switch (corner) {
            case 0:
                return sampleAt(x, y);
            case 1:
                return sampleAt(x + 1, y);
            case 2:
                return sampleAt(x + 1, y + 1);
            default:
                return sampleAt(x, y + 1);
        }
    }

    private int sideEdge(int x, int y, int side) {
        switch (side) {
            case 0:
                return rightwardEdge(x, y);
            case 1:
                return upwardEdge(x + 1, y);
            case 2:
                return rightwardEdge(x, y + 1);
            default:
                return upwardEdge(x, y);
        }
    }

    private static boolean hasCorner(int above, int corner) {
        return (above >> (corner % CORNERS) & 1) == 1;
    }

    // Who comes in over a side has the side's first corner at the left, and it must be above.
    private static boolean entersAt(int above, int side) {
        return hasCorner(above, side) && !hasCorner(above, side + 1);
    }

    private static boolean leavesAt(int above, int side) {
        return !hasCorner(above, side) && hasCorner(above, side + 1);
    }

    private static int exitFrom(int above, int entry, int turn) {
        int side = (entry + turn) % CORNERS;
        for (int n = 0; n < CORNERS && !leavesAt(above, side); n++) {
            side = (side + turn) % CORNERS;
        }
        return side;
    }

    /** Asked only where a and c are on one side of the height and b and d on the other. */
    private boolean isMiddleAbove(int x, int y) {
        long a = samples[cornerSample(x, y, 0)];
        long b = samples[cornerSample(x, y, 1)];
        long c = samples[cornerSample(x, y, 2)];
        long d = samples[cornerSample(x, y, 3)];
        long lower = a + c - b - d;
        // Twice the middle and twice the height, both times lower, so that nothing is rounded.
        long middle = 2 * (a * c - b * d);
        long level = twiceHeight * lower;
        return lower > 0 ? middle > level : middle < level;
    }

    // Chains

    private boolean hasChain(int chain) {
        return chain >= 0 && chain < chains;
    }

    private void forgetChains() {
        chains = 0;
        openChains = 0;
        Arrays.fill(owner, NONE);
    }

    private void gatherOpenChains() {
        for (int edge = 0; edge < edgeCount(); edge++) {
            if (next[edge] != NONE && before[edge] == NONE) {
                gatherChain(edge);
            }
        }
        openChains = chains;
    }

    // Comes behind the open ones: an edge with a line that is in none of them is in a closed one.
    private void gatherClosedChains() {
        for (int edge = 0; edge < edgeCount(); edge++) {
            if (next[edge] != NONE && owner[edge] == NONE) {
                gatherChain(edge);
            }
        }
    }

    private void gatherChain(int first) {
        int end = starts[chains];
        int edge = first;
        for (int n = 0; n < MOST_EDGES && edge != NONE && owner[edge] == NONE; n++) {
            owner[edge] = chains;
            order[end] = edge;
            end++;
            edge = next[edge];
        }
        chains++;
        starts[chains] = end;
    }

    private int withinInRow(int chain, int y) {
        int count = 0;
        boolean inside = false;
        for (int x = 1; x < columns; x++) {
            if (owner[rightwardEdge(x - 1, y)] == chain) {
                inside = !inside;
            }
            if (inside) {
                count++;
            }
        }
        return count;
    }
}
