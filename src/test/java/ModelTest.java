import java.math.BigInteger;
import java.util.ArrayList;
import java.util.HashMap;
import java.util.List;
import java.util.Map;
import java.util.NoSuchElementException;
import java.util.Random;
import java.util.TreeMap;

/**
 * Long runs of calls, from fixed seeds, against a model that is written another way: it knows edges
 * by their ends, finds a line's direction by its left-hand side, and rounds nothing. (The program
 * counts no calls, so a run may ask more of one object than the document's 512.)
 */
public final class ModelTest {
    private static final int RUNS = 2000;
    private static final int CALLS = 512;
    private static final String THROWS = "throws";

    /** An edge by its ends, (x, y) and (x + dx, y + dy). */
    private record Edge(int number, int x, int y, int dx, int dy) {
        int twiceMidX() {
            return 2 * x + dx;
        }

        int twiceMidY() {
            return 2 * y + dy;
        }

        boolean touches(int px, int py) {
            return (px == x && py == y) || (px == x + dx && py == y + dy);
        }
    }

    private static final class Model {
        int w = 2;
        int h = 2;
        int twice = 1;
        int[][] at = new int[2][2];
        List<Edge> edges = listEdges(2, 2);
        List<List<Integer>> chains = new ArrayList<>();
        int open = 0;

        static List<Edge> listEdges(int w, int h) {
            List<Edge> all = new ArrayList<>();
            for (int y = 0; y < h; y++) {
                for (int x = 0; x < w - 1; x++) {
                    all.add(new Edge(all.size(), x, y, 1, 0));
                }
            }
            for (int y = 0; y < h - 1; y++) {
                for (int x = 0; x < w; x++) {
                    all.add(new Edge(all.size(), x, y, 0, 1));
                }
            }
            return all;
        }

        boolean field(int newW, int newH) {
            if (newW < 2 || newW > 12 || newH < 2 || newH > 12) {
                return false;
            }
            w = newW;
            h = newH;
            at = new int[w][h];
            edges = listEdges(w, h);
            chains = new ArrayList<>();
            open = 0;
            return true;
        }

        boolean set(int x, int y, int v) {
            if (x < 0 || x >= w || y < 0 || y >= h || v < -1000000 || v > 1000000) {
                return false;
            }
            at[x][y] = v;
            return true;
        }

        boolean row(int y, int from, int step) {
            if (y < 0 || y >= h) {
                return false;
            }
            BigInteger bound = BigInteger.valueOf(1000000);
            BigInteger value = BigInteger.valueOf(from);
            for (int x = 0; x < w; x++) {
                at[x][y] = value.min(bound).max(bound.negate()).intValueExact();
                value = value.add(BigInteger.valueOf(step));
            }
            return true;
        }

        boolean height(int newTwice) {
            if (newTwice % 2 == 0 || newTwice < -1999999 || newTwice > 1999999) {
                return false;
            }
            twice = newTwice;
            return true;
        }

        boolean above(int x, int y) {
            return at[x][y] > twice / 2.0;
        }

        boolean crosses(Edge e) {
            return above(e.x, e.y) != above(e.x + e.dx, e.y + e.dy);
        }

        int crossed() {
            return (int) edges.stream().filter(this::crosses).count();
        }

        Edge find(int x, int y, int dx, int dy) {
            for (Edge e : edges) {
                if (e.x == x && e.y == y && e.dx == dx && e.dy == dy) {
                    return e;
                }
            }
            throw new AssertionError("no such edge");
        }

        boolean middleAbove(int x, int y) {
            BigInteger a = BigInteger.valueOf(at[x][y]);
            BigInteger b = BigInteger.valueOf(at[x + 1][y]);
            BigInteger c = BigInteger.valueOf(at[x + 1][y + 1]);
            BigInteger d = BigInteger.valueOf(at[x][y + 1]);
            BigInteger upper = a.multiply(c).subtract(b.multiply(d));
            BigInteger lower = a.add(c).subtract(b).subtract(d);
            // middle - height = (2 upper - twice lower) / (2 lower)
            BigInteger rest = upper.shiftLeft(1).subtract(lower.multiply(BigInteger.valueOf(twice)));
            return rest.signum() * lower.signum() > 0;
        }

        void join(Edge e, Edge f, Map<Integer, Integer> next) {
            int px = above(e.x, e.y) ? e.x : e.x + e.dx;
            int py = above(e.x, e.y) ? e.y : e.y + e.dy;
            int alongX = f.twiceMidX() - e.twiceMidX();
            int alongY = f.twiceMidY() - e.twiceMidY();
            int turn = alongX * (2 * py - e.twiceMidY()) - alongY * (2 * px - e.twiceMidX());
            boolean left = turn > 0;
            Integer old = left ? next.put(e.number, f.number) : next.put(f.number, e.number);
            if (turn == 0 || old != null) {
                throw new AssertionError("the model draws no proper lines");
            }
        }

        void drawCell(int x, int y, Map<Integer, Integer> next) {
            List<Edge> here = new ArrayList<>();
            for (Edge e : List.of(find(x, y, 1, 0), find(x + 1, y, 0, 1), find(x, y + 1, 1, 0), find(x, y, 0, 1))) {
                if (crosses(e)) {
                    here.add(e);
                }
            }
            if (here.size() == 2) {
                join(here.get(0), here.get(1), next);
            }
            if (here.size() == 4) {
                boolean cutOff = !middleAbove(x, y);
                for (int[] corner : new int[][] {{x, y}, {x + 1, y}, {x, y + 1}, {x + 1, y + 1}}) {
                    if (above(corner[0], corner[1]) == cutOff) {
                        List<Edge> near = here.stream().filter(e -> e.touches(corner[0], corner[1])).toList();
                        join(near.get(0), near.get(1), next);
                    }
                }
            }
        }

        int make() {
            Map<Integer, Integer> next = new HashMap<>();
            for (int x = 0; x < w - 1; x++) {
                for (int y = 0; y < h - 1; y++) {
                    drawCell(x, y, next);
                }
            }
            TreeMap<Integer, List<Integer>> opened = new TreeMap<>();
            TreeMap<Integer, List<Integer>> closed = new TreeMap<>();
            for (Integer first : next.keySet()) {
                if (!next.containsValue(first)) {
                    List<Integer> chain = new ArrayList<>();
                    for (Integer e = first; e != null; e = next.get(e)) {
                        chain.add(e);
                    }
                    opened.put(first, chain);
                }
            }
            for (List<Integer> chain : opened.values()) {
                next.keySet().removeAll(chain);
            }
            while (!next.isEmpty()) {
                Integer first = new TreeMap<>(next).firstKey();
                List<Integer> chain = new ArrayList<>();
                for (Integer e = first; e != null; e = next.remove(e)) {
                    chain.add(e);
                }
                chain.remove(chain.size() - 1);
                closed.put(first, chain);
            }
            open = opened.size();
            chains = new ArrayList<>(opened.values());
            chains.addAll(closed.values());
            return chains.size();
        }

        boolean has(int chain) {
            return chain >= 0 && chain < chains.size();
        }

        int size(int chain) {
            return has(chain) ? chains.get(chain).size() : -1;
        }

        boolean isClosed(int chain) {
            return has(chain) && chain >= open;
        }

        int edge(int chain, int i) {
            return has(chain) && i >= 0 && i < chains.get(chain).size() ? chains.get(chain).get(i) : -1;
        }

        String crossing(int edge, int what) {
            if (edge < 0 || edge >= edges.size() || !crosses(edges.get(edge)) || (what != 0 && what != 1)) {
                return THROWS;
            }
            Edge e = edges.get(edge);
            BigInteger first = BigInteger.valueOf(at[e.x][e.y]);
            BigInteger second = BigInteger.valueOf(at[e.x + e.dx][e.y + e.dy]);
            BigInteger upper = BigInteger.valueOf(twice).subtract(first.shiftLeft(1));
            BigInteger lower = second.subtract(first).shiftLeft(1);
            BigInteger by = upper.gcd(lower).multiply(BigInteger.valueOf(lower.signum()));
            return (what == 0 ? upper : lower).divide(by).toString();
        }

        int within(int chain) {
            if (!isClosed(chain)) {
                return -1;
            }
            int count = 0;
            for (int x = 0; x < w; x++) {
                for (int y = 0; y < h; y++) {
                    int times = 0;
                    for (int left = x - 1; left >= 0; left--) {
                        if (chains.get(chain).contains(find(left, y, 1, 0).number)) {
                            times++;
                        }
                    }
                    count += times % 2;
                }
            }
            return count;
        }
    }

    private static String crossing(HeightLines lines, int edge, int what) {
        try {
            return String.valueOf(lines.crossing(edge, what));
        } catch (NoSuchElementException e) {
            return THROWS;
        }
    }

    private static final int[] ODD_ONES = {Integer.MIN_VALUE, Integer.MAX_VALUE, -1, 264, 13, 1000001, -1000001, 2000000};

    private final Random random;
    private final HeightLines lines = new HeightLines();
    private final Model model = new Model();
    private final List<String> told = new ArrayList<>();
    private final int spread;
    private boolean right = true;
    private int closedAtFirst = 0;

    private ModelTest(int run) {
        random = new Random(run);
        spread = new int[] {1, 2, 4, 20, 1000000}[run % 5];
    }

    private int below(int bound) {
        return random.nextInt(40) == 0 ? ODD_ONES[random.nextInt(ODD_ONES.length)] : random.nextInt(Math.max(1, bound));
    }

    private int sample() {
        return random.nextInt(60) == 0 ? ODD_ONES[random.nextInt(ODD_ONES.length)] : random.nextInt(2 * spread + 1) - spread;
    }

    private void check(String call, Object got, Object want) {
        told.add(call + " = " + got);
        if (!got.equals(want)) {
            System.out.println(told);
            System.out.println(call + " answered " + got + ", due is " + want);
            right = false;
        }
    }

    private void callOne() {
        int x = below(model.w + 1);
        int y = below(model.h + 1);
        int chain = below(model.chains.size() + 1);
        int edge = below(model.edges.size() + 1);
        switch (random.nextInt(14)) {
            case 0 -> {
                if (random.nextInt(6) == 0) {
                    int w = below(14);
                    int h = below(14);
                    check("field " + w + " " + h, lines.field(w, h), model.field(w, h));
                }
            }
            case 1 -> {
                int from = sample();
                int step = sample();
                check("row " + y + " " + from + " " + step, lines.row(y, from, step), model.row(y, from, step));
            }
            case 2 -> {
                int twice = random.nextInt(3) == 0 ? 1 : Math.max(-3000000, Math.min(3000000, sample())) * 2 + random.nextInt(3);
                check("height " + twice, lines.height(twice), model.height(twice));
            }
            case 3 -> check("make", lines.make(), model.make());
            case 4 -> check("size " + chain, lines.size(chain), model.size(chain));
            case 5 -> check("isClosed " + chain, lines.isClosed(chain), model.isClosed(chain));
            case 6 -> {
                int i = below(model.size(chain) + 2);
                check("edge " + chain + " " + i, lines.edge(chain, i), model.edge(chain, i));
            }
            case 7 -> {
                int what = below(3);
                check("crossing " + edge + " " + what, crossing(lines, edge, what), model.crossing(edge, what));
            }
            case 8 -> check("within " + chain, lines.within(chain), model.within(chain));
            case 9 -> check("crossed", lines.crossed(), model.crossed());
            default -> {
                int v = sample();
                check("set " + x + " " + y + " " + v, lines.set(x, y, v), model.set(x, y, v));
            }
        }
    }

    /** All that can be asked of the chains and edges as they are. */
    private void compareAll() {
        for (int chain = -1; chain <= model.chains.size(); chain++) {
            check("size " + chain, lines.size(chain), model.size(chain));
            check("isClosed " + chain, lines.isClosed(chain), model.isClosed(chain));
            check("within " + chain, lines.within(chain), model.within(chain));
            for (int i = -1; i <= model.size(chain); i++) {
                check("edge " + chain + " " + i, lines.edge(chain, i), model.edge(chain, i));
            }
        }
        for (int edge = -1; edge <= model.edges.size(); edge++) {
            for (int what = -1; what <= 2; what++) {
                check("crossing " + edge + " " + what, crossing(lines, edge, what), model.crossing(edge, what));
            }
        }
        check("crossed", lines.crossed(), model.crossed());
    }

    private void fillAtRandom() {
        int w = 2 + random.nextInt(11);
        int h = 2 + random.nextInt(11);
        check("field " + w + " " + h, lines.field(w, h), model.field(w, h));
        for (int y = 0; y < h; y++) {
            for (int x = 0; x < w; x++) {
                int v = random.nextInt(2 * spread + 1) - spread;
                check("set " + x + " " + y + " " + v, lines.set(x, y, v), model.set(x, y, v));
            }
        }
    }

    private boolean run() {
        fillAtRandom();
        check("make", lines.make(), model.make());
        closedAtFirst = model.chains.size() - model.open;
        compareAll();
        for (int n = 0; n < CALLS && right; n++) {
            callOne();
        }
        compareAll();
        return right;
    }

    public static void main(String[] args) {
        int closed = 0;
        for (int run = 0; run < RUNS; run++) {
            ModelTest test = new ModelTest(run);
            if (!test.run()) {
                System.out.println("run " + run + " is not as due");
                System.exit(1);
            }
            closed += test.closedAtFirst;
        }
        if (closed < RUNS) {
            System.out.println("the runs made too few closed chains: " + closed);
            System.exit(1);
        }
        System.out.println("all answers are as due");
    }
}
