import java.util.ArrayList;
import java.util.Arrays;
import java.util.List;
import java.util.NoSuchElementException;
import java.util.Random;

/**
 * The document's first line, on every pattern of samples above and below of small fields and on
 * greater ones from fixed seeds. It draws nothing itself: the chains that were made are looked at as
 * lines on a map, from point to point, against the field that they go through.
 */
public final class LinesTest {
    private static final int GREATER_FIELDS = 3000;

    // Samples to choose from: those below the height 1/2, then those above it.
    private static final int[][][] PALETTES = {
        {{0}, {1}},
        {{0}, {2}},
        {{-3}, {2}},
        {{0, -1, -4}, {1, 2, 5}},
        {{0, 0, 0, -9}, {1, 1, 3}},
        {{-40, -7, 0}, {1, 30, 55}}};

    private static int wrong = 0;

    private final int w;
    private final int h;
    private final int[] samples;
    private final HeightLines lines = new HeightLines();

    private LinesTest(int w, int h, int[] samples) {
        this.w = w;
        this.h = h;
        this.samples = samples;
        lines.field(w, h);
        for (int k = 0; k < samples.length; k++) {
            lines.set(k % w, k / w, samples[k]);
        }
    }

    private void due(String what, Object got, Object want) {
        if (!got.equals(want)) {
            wrong++;
            System.out.println(w + " by " + h + " " + Arrays.toString(samples) + ": " + what + " is " + got + ", due is " + want);
        }
    }

    // The field and its edges

    private int edgesToTheRight() {
        return h * (w - 1);
    }

    private int edges() {
        return edgesToTheRight() + w * (h - 1);
    }

    private boolean isUpward(int edge) {
        return edge >= edgesToTheRight();
    }

    private int x(int edge) {
        return isUpward(edge) ? (edge - edgesToTheRight()) % w : edge % (w - 1);
    }

    private int y(int edge) {
        return isUpward(edge) ? (edge - edgesToTheRight()) / w : edge / (w - 1);
    }

    private int sample(int x, int y) {
        return samples[y * w + x];
    }

    private int first(int edge) {
        return sample(x(edge), y(edge));
    }

    private int second(int edge) {
        return isUpward(edge) ? sample(x(edge), y(edge) + 1) : sample(x(edge) + 1, y(edge));
    }

    private boolean isAtTheBorder(int edge) {
        return isUpward(edge) ? x(edge) == 0 || x(edge) == w - 1 : y(edge) == 0 || y(edge) == h - 1;
    }

    private boolean isCrossed(int edge) {
        try {
            return lines.crossing(edge, 0) > 0;
        } catch (NoSuchElementException e) {
            return false;
        }
    }

    /** Bottom, right, top and left of the cell at (x, y). */
    private int[] sides(int x, int y) {
        int bottom = y * (w - 1) + x;
        int left = edgesToTheRight() + y * w + x;
        return new int[] {bottom, left + 1, bottom + w - 1, left};
    }

    /** The cell {x, y} that has both edges: two edges that are not the same have at most one. */
    private int[] cellOf(int edge, int other) {
        for (int y = 0; y < h - 1; y++) {
            for (int x = 0; x < w - 1; x++) {
                int[] sides = sides(x, y);
                if (has(sides, edge) && has(sides, other)) {
                    return new int[] {x, y};
                }
            }
        }
        return null;
    }

    private static boolean has(int[] all, int one) {
        return Arrays.stream(all).anyMatch(each -> each == one);
    }

    /** What the field is at s / of to the right and t / of up in a cell, times of * of. */
    private long between(int x, int y, long s, long t, long of) {
        return sample(x, y) * (of - s) * (of - t) + sample(x + 1, y) * s * (of - t)
            + sample(x + 1, y + 1) * s * t + sample(x, y + 1) * (of - s) * t;
    }

    /** Where the field goes neither up nor down along either side: its middle. */
    private boolean isMiddleAbove(int x, int y) {
        long a = sample(x, y);
        long of = a + sample(x + 1, y + 1) - sample(x + 1, y) - sample(x, y + 1);
        long s = a - sample(x, y + 1);
        long t = a - sample(x + 1, y);
        return 2 * between(x, y, s, t, of) > of * of;
    }

    // The chains as lines on a map

    /** The point where an edge is crossed: x, y and by what both are to be divided. */
    private long[] point(int edge) {
        long upper = lines.crossing(edge, 0);
        long lower = lines.crossing(edge, 1);
        return isUpward(edge)
            ? new long[] {x(edge) * lower, y(edge) * lower + upper, lower}
            : new long[] {x(edge) * lower + upper, y(edge) * lower, lower};
    }

    /** Above 0 when the sample lies left of the way from one point to the other. */
    private static int sideOf(long[] from, long[] to, int x, int y) {
        long alongX = to[0] * from[2] - from[0] * to[2];
        long alongY = to[1] * from[2] - from[1] * to[2];
        return Long.signum(alongX * (y * from[2] - from[1]) - alongY * (x * from[2] - from[0]));
    }

    private void lookAtPoint(int edge) {
        long upper = lines.crossing(edge, 0);
        long lower = lines.crossing(edge, 1);
        due("'height - first' at " + edge, 2 * upper * (second(edge) - first(edge)), lower * (1 - 2 * first(edge)));
        due("a part of edge " + edge, upper > 0 && upper < lower, true);
    }

    private void lookAtLine(int from, int to) {
        String told = "the line from " + from + " to " + to;
        int[] cell = cellOf(from, to);
        due(told + " goes through a cell", cell != null && from != to, true);
        if (cell == null) {
            return;
        }
        for (int edge : new int[] {from, to}) {
            int x = x(edge);
            int y = y(edge);
            int left = first(edge) > 0 ? 1 : -1;
            due(told + ", at which side (" + x + ", " + y + ") lies", sideOf(point(from), point(to), x, y), left);
            int upX = isUpward(edge) ? x : x + 1;
            int upY = isUpward(edge) ? y + 1 : y;
            due(told + ", at which side (" + upX + ", " + upY + ") lies", sideOf(point(from), point(to), upX, upY), -left);
        }
        lookAtMiddle(told, cell, from, to);
    }

    /** The line must leave the middle on the side where the field is as it is there. */
    private void lookAtMiddle(String told, int[] cell, int from, int to) {
        if (Arrays.stream(sides(cell[0], cell[1])).allMatch(this::isCrossed)) {
            int corner = cornerOf(from, to);
            due(told + " cuts off a corner", corner >= 0, true);
            if (corner >= 0) {
                due(told + " cuts off one above", samples[corner] > 0, !isMiddleAbove(cell[0], cell[1]));
            }
        }
    }

    private int cornerOf(int edge, int other) {
        int[] ends = {y(edge) * w + x(edge), y(edge) * w + x(edge) + (isUpward(edge) ? w : 1)};
        int[] others = {y(other) * w + x(other), y(other) * w + x(other) + (isUpward(other) ? w : 1)};
        return Arrays.stream(ends).filter(end -> has(others, end)).findFirst().orElse(-1);
    }

    private List<Integer> edgesOf(int chain) {
        List<Integer> all = new ArrayList<>();
        for (int i = 0; i < lines.size(chain); i++) {
            all.add(lines.edge(chain, i));
        }
        return all;
    }

    private void lookAtChain(int chain) {
        List<Integer> all = edgesOf(chain);
        int last = all.size() - 1;
        boolean closed = lines.isClosed(chain);
        for (int i = 0; i <= last; i++) {
            boolean end = !closed && (i == 0 || i == last);
            due("edge " + all.get(i) + " of chain " + chain + " at the border", isAtTheBorder(all.get(i)), end);
            if (i < last || closed) {
                lookAtLine(all.get(i), all.get(i < last ? i + 1 : 0));
            }
        }
        if (closed) {
            due("the least edge of chain " + chain, all.get(0), all.stream().min(Integer::compare).get());
            due("within(" + chain + ")", lines.within(chain), withinByColumns(all));
        } else {
            due("within(" + chain + ")", lines.within(chain), HeightLines.NONE);
        }
    }

    /** Of a closed line it is all one whether one goes left along the row or down along the column. */
    private int withinByColumns(List<Integer> chain) {
        int count = 0;
        for (int x = 0; x < w; x++) {
            boolean inside = false;
            for (int y = 1; y < h; y++) {
                inside ^= chain.contains(edgesToTheRight() + (y - 1) * w + x);
                count += inside ? 1 : 0;
            }
        }
        return count;
    }

    private void lookAtOrder(int chains) {
        for (int chain = 1; chain < chains; chain++) {
            boolean same = lines.isClosed(chain - 1) == lines.isClosed(chain);
            boolean ordered = same ? lines.edge(chain - 1, 0) < lines.edge(chain, 0) : lines.isClosed(chain);
            due("chain " + chain + " behind the one before", ordered, true);
        }
    }

    /** One field that is wrong is enough: the others would be wrong the same way, in thousands of lines. */
    private static void look(LinesTest test) {
        if (wrong == 0) {
            test.look();
        }
    }

    private void look() {
        int chains = lines.make();
        int[] times = new int[edges()];
        int crossed = 0;
        for (int chain = 0; chain < chains; chain++) {
            edgesOf(chain).forEach(edge -> times[edge]++);
            lookAtChain(chain);
        }
        for (int edge = 0; edge < edges(); edge++) {
            boolean due = first(edge) > 0 != second(edge) > 0;
            due("edge " + edge + " crossed", isCrossed(edge), due);
            due("how often edge " + edge + " is in chains", times[edge], due ? 1 : 0);
            if (due) {
                crossed++;
                lookAtPoint(edge);
            }
        }
        due("crossed()", lines.crossed(), crossed);
        due("size() behind the last chain", lines.size(chains), HeightLines.NONE);
        lookAtOrder(chains);
    }

    private static int pick(int[] choice, Random random) {
        return choice[random.nextInt(choice.length)];
    }

    private static void allPatterns(int w, int h) {
        Random random = new Random(w * 100 + h);
        for (int above = 0; above < 1 << w * h; above++) {
            for (int[][] palette : PALETTES) {
                int[] samples = new int[w * h];
                for (int k = 0; k < samples.length; k++) {
                    samples[k] = pick(palette[above >> k & 1], random);
                }
                look(new LinesTest(w, h, samples));
            }
        }
    }

    private static void greaterFields() {
        Random random = new Random(7);
        for (int n = 0; n < GREATER_FIELDS; n++) {
            int[][] palette = PALETTES[n % PALETTES.length];
            int w = 2 + random.nextInt(11);
            int h = 2 + random.nextInt(11);
            int[] samples = new int[w * h];
            for (int k = 0; k < samples.length; k++) {
                samples[k] = pick(palette[random.nextInt(2)], random);
            }
            look(new LinesTest(w, h, samples));
        }
    }

    public static void main(String[] args) {
        allPatterns(2, 2);
        allPatterns(2, 5);
        allPatterns(5, 2);
        allPatterns(3, 3);
        allPatterns(3, 4);
        allPatterns(4, 3);
        greaterFields();
        System.out.println(wrong == 0 ? "all lines are as due" : wrong + " answers are not as due");
        if (wrong != 0) {
            System.exit(1);
        }
    }
}
