import java.util.LinkedHashMap;
import java.util.Map;
import java.util.NoSuchElementException;

/**
 * A test of its own for each sentence of promises 1 to 12 that names a boundary case: the case on the
 * boundary, those just beyond it, and behind a refused call that nothing has changed.
 */
public final class BoundariesTest {
    private static final int MIN = Integer.MIN_VALUE;
    private static final int MAX = Integer.MAX_VALUE;
    private static final int NONE = HeightLines.NONE;
    private static final int MOST = 1000000;
    private static final String THROWS = "throws.NoSuchElementException";
    private static final String NO_CHAINS = "";

    private interface Run {
        void on(HeightLines lines);
    }

    private interface Call {
        Object on(HeightLines lines);
    }

    private static String sentence = "";
    private static int asked = 0;
    private static int wrong = 0;

    private static void due(String what, Object got, Object want) {
        asked++;
        if (!got.equals(want)) {
            wrong++;
            System.out.println(sentence + ": " + what + " answered " + got + ", due is " + want);
        }
    }

    private static void test(String itsSentence, Runnable body) {
        sentence = itsSentence;
        int askedBefore = asked;
        body.run();
        due("whether anything was asked", asked > askedBefore, true);
    }

    // What an object holds, read through its face

    private static HeightLines after(Run run) {
        HeightLines lines = new HeightLines();
        run.on(lines);
        return lines;
    }

    private static Object crossing(HeightLines lines, int edge, int what) {
        try {
            return lines.crossing(edge, what);
        } catch (NoSuchElementException e) {
            return "throws." + e.getClass().getSimpleName();
        }
    }

    private static String fraction(HeightLines lines, int edge) {
        return crossing(lines, edge, 0) + "/" + crossing(lines, edge, 1);
    }

    /** The chains as they are held: those that aren't closed bare, closed ones in brackets. */
    private static String chains(HeightLines lines) {
        StringBuilder text = new StringBuilder();
        for (int chain = 0; lines.size(chain) != NONE; chain++) {
            StringBuilder edges = new StringBuilder();
            for (int i = 0; i < lines.size(chain); i++) {
                edges.append(i == 0 ? "" : " ").append(lines.edge(chain, i));
            }
            text.append(chain == 0 ? "" : ", ");
            text.append(lines.isClosed(chain) ? "[" + edges + "]" : edges);
        }
        return text.toString();
    }

    private static int width(HeightLines lines) {
        int w = 0;
        while (w < 20 && lines.set(w, 0, 0)) {
            w++;
        }
        return w;
    }

    private static int height(HeightLines lines) {
        int h = 0;
        while (h < 20 && lines.set(0, h, 0)) {
            h++;
        }
        return h;
    }

    /** From a neighbour at the very bottom to the sample, just above it: 1 of twice the way. */
    private static int sample(HeightLines lines, int w, int x, int y) {
        int neighbour = x == 0 ? 1 : x - 1;
        lines.set(neighbour, y, -MOST);
        lines.height(1 - 2 * MOST);
        Object lower = crossing(lines, y * (w - 1) + Math.min(x, neighbour), 1);
        return lower.equals(THROWS) ? -MOST : (int) lower / 2 - MOST;
    }

    private static int twiceHeight(HeightLines lines) {
        lines.set(0, 0, -MOST);
        lines.set(1, 0, MOST);
        int upper = (int) crossing(lines, 0, 0);
        int lower = (int) crossing(lines, 0, 1);
        return upper * (4 * MOST / lower) - 2 * MOST;
    }

    private static String samples(Run run) {
        int w = width(after(run));
        int h = height(after(run));
        StringBuilder text = new StringBuilder();
        for (int y = 0; y < h; y++) {
            for (int x = 0; x < w; x++) {
                text.append(x > 0 ? " " : y > 0 ? " | " : "").append(sample(after(run), w, x, y));
            }
        }
        return text.toString();
    }

    /** All that an object holds. Reading one part disturbs others, so each has an object of its own. */
    private static String state(Run run) {
        return samples(run) + "; twice " + twiceHeight(after(run)) + "; chains " + chains(after(run));
    }

    private static Run then(Run first, Call call) {
        return lines -> {
            first.on(lines);
            call.on(lines);
        };
    }

    /** On every ground the call has this answer, and all is as if it had never been made. */
    private static void changesNothing(String told, Object want, Call call) {
        GROUNDS.forEach((name, ground) -> {
            due(told + " on " + name, call.on(after(ground)), want);
            due("the state behind " + told + " on " + name, state(then(ground, call)), state(ground));
        });
    }

    // Grounds to begin on

    /** Samples row after row from y = 0. */
    private static void fill(HeightLines lines, int w, int h, int... values) {
        lines.field(w, h);
        for (int k = 0; k < values.length; k++) {
            lines.set(k % w, k / w, values[k]);
        }
    }

    private static final String MADE_CHAINS = "11 23, [3 13 4 17]";

    /** Of 4 by 4 samples, no two alike, two above 3/2: the corner (3, 3), and (1, 1) inside. */
    private static void made(HeightLines lines) {
        fill(lines, 4, 4, -1, -2, -3, -4, -5, 7, -6, -7, -8, -9, -10, -11, -12, -13, -14, 9);
        lines.height(3);
        lines.make();
    }

    private static void changedSince(HeightLines lines) {
        made(lines);
        lines.row(2, 11, 12);
        lines.set(1, 1, -20);
        lines.height(-21);
    }

    private static void chequered(HeightLines lines) {
        lines.field(12, 12);
        for (int y = 0; y < 12; y++) {
            for (int x = 0; x < 12; x++) {
                lines.set(x, y, (x + y) % 2);
            }
        }
        lines.make();
    }

    private static final Map<String, Run> GROUNDS = new LinkedHashMap<>();

    static {
        GROUNDS.put("a new object", lines -> { });
        GROUNDS.put("chains made", BoundariesTest::made);
        GROUNDS.put("samples and height changed since", BoundariesTest::changedSince);
        GROUNDS.put("the greatest field", BoundariesTest::chequered);
        GROUNDS.put("a field without chains", lines -> {
            made(lines);
            lines.field(3, 5);
        });
    }

    private static void dueNoChains(String told, Run run) {
        HeightLines lines = after(run);
        for (int chain : new int[] {MIN, -1, 0, 1, MAX}) {
            due(told + ", size(" + chain + ")", lines.size(chain), NONE);
            due(told + ", isClosed(" + chain + ")", lines.isClosed(chain), false);
            due(told + ", edge(" + chain + ", 0)", lines.edge(chain, 0), NONE);
            due(told + ", within(" + chain + ")", lines.within(chain), NONE);
        }
    }

    // Promise 1

    private static void newField() {
        due("its state", state(lines -> { }), "0 0 | 0 0; twice 1; chains ");
        HeightLines lines = new HeightLines();
        due("crossed()", lines.crossed(), 0);
        due("set(1, 1, 1), the last sample", lines.set(1, 1, 1), true);
        due("set(2, 1, 1)", lines.set(2, 1, 1), false);
        due("set(1, 2, 1)", lines.set(1, 2, 1), false);
        due("crossing(3), the last edge", fraction(lines, 3), "1/2");
        due("crossing(4, 0)", crossing(lines, 4, 0), THROWS);
    }

    private static void newChains() {
        dueNoChains("a new object", lines -> { });
        due("make()", new HeightLines().make(), 0);
    }

    private static void newBesideOld() {
        HeightLines old = after(BoundariesTest::made);
        due("the state of a new one", state(lines -> { }), "0 0 | 0 0; twice 1; chains ");
        due("the chains of the old one", chains(old), MADE_CHAINS);
    }

    // Promise 2

    private static void fieldSides() {
        for (int w = -1; w <= 14; w++) {
            for (int h = -1; h <= 14; h++) {
                HeightLines lines = new HeightLines();
                boolean fits = w >= 2 && w <= 12 && h >= 2 && h <= 12;
                String told = "field(" + w + ", " + h + ")";
                due(told, lines.field(w, h), fits);
                due("columns behind " + told, width(lines), fits ? w : 2);
                due("rows behind " + told, height(lines), fits ? h : 2);
            }
        }
    }

    private static void fieldSamples() {
        GROUNDS.forEach((name, ground) -> {
            due("field(3, 2) on " + name, samples(then(ground, lines -> lines.field(3, 2))), "0 0 0 | 0 0 0");
            due("field(2, 3) on " + name, samples(then(ground, lines -> lines.field(2, 3))), "0 0 | 0 0 | 0 0");
            String zeros = samples(then(ground, lines -> lines.field(12, 12)));
            due("field(12, 12) on " + name, zeros, ("0 ".repeat(12) + "| ").repeat(11) + "0 ".repeat(11) + "0");
        });
        due("the greatest field behind the least one", after(lines -> {
            lines.field(12, 12);
            for (int y = 0; y < 12; y++) {
                lines.row(y, 5, 0);
            }
            lines.field(2, 2);
            lines.field(12, 12);
        }).crossed(), 0);
    }

    private static void fieldChains() {
        for (int[] sides : new int[][] {{4, 4}, {2, 2}, {12, 12}, {3, 5}}) {
            String told = "field(" + sides[0] + ", " + sides[1] + ")";
            GROUNDS.forEach((name, ground) ->
                dueNoChains(told + " on " + name, then(ground, lines -> lines.field(sides[0], sides[1]))));
        }
    }

    private static void fieldHeight() {
        for (int twice : new int[] {1, -1, 3, 1999999, -1999999}) {
            Run run = lines -> {
                lines.height(twice);
                lines.field(3, 2);
            };
            due("field(3, 2) behind height(" + twice + ")", state(run), "0 0 0 | 0 0 0; twice " + twice + "; chains ");
        }
    }

    private static void fieldRefused() {
        int[][] others = {
            {1, 4}, {13, 4}, {4, 1}, {4, 13}, {1, 1}, {13, 13}, {1, 13}, {13, 1}, {0, 4}, {4, 0}, {0, 0},
            {-1, 4}, {4, -1}, {-4, -4}, {-2, 2}, {2, -2}, {-12, 12}, {260, 4}, {4, 260}, {65540, 4}, {4, 65540},
            {MIN, 4}, {4, MIN}, {MAX, 4}, {4, MAX}, {MIN, MIN}, {MAX, MAX}, {MIN, MAX}};
        for (int[] sides : others) {
            changesNothing("field(" + sides[0] + ", " + sides[1] + ")", false, lines -> lines.field(sides[0], sides[1]));
        }
    }

    // Promise 3

    private static void setOne() {
        String[] due = {
            "9 0 0 | 0 0 0", "0 9 0 | 0 0 0", "0 0 9 | 0 0 0", "0 0 0 | 9 0 0", "0 0 0 | 0 9 0", "0 0 0 | 0 0 9"};
        for (int k = 0; k < due.length; k++) {
            int x = k % 3;
            int y = k / 3;
            Run run = lines -> {
                lines.field(3, 2);
                due("set(" + x + ", " + y + ", 9)", lines.set(x, y, 9), true);
            };
            due("the samples behind set(" + x + ", " + y + ", 9)", samples(run), due[k]);
        }
    }

    private static void setBeside() {
        // On the grounds of 2, 3, 4 and 12 columns and 2, 4, 5 and 12 rows.
        for (int[] at : new int[][] {{-1, 0}, {0, -1}, {-1, -1}, {-1, 1}, {1, -1}, {12, 0}, {0, 12}, {12, 11}, {11, 12},
            {MIN, 0}, {0, MIN}, {MAX, 0}, {0, MAX}, {MIN, MIN}, {MAX, MAX}}) {
            changesNothing("set(" + at[0] + ", " + at[1] + ", 5)", false, lines -> lines.set(at[0], at[1], 5));
        }
        // Just beyond the last column the sample's place would be that of the next row's first.
        for (int w = 2; w <= 12; w++) {
            for (int h = 2; h <= 12; h++) {
                HeightLines lines = new HeightLines();
                lines.field(w, h);
                String told = " in " + w + " by " + h;
                due("set(w, 0, 5)" + told, lines.set(w, 0, 5), false);
                due("set(w, h - 1, 5)" + told, lines.set(w, h - 1, 5), false);
                due("set(-1, 1, 5)" + told, lines.set(-1, 1, 5), false);
                due("set(0, h, 5)" + told, lines.set(0, h, 5), false);
                due("set(w - 1, h, 5)" + told, lines.set(w - 1, h, 5), false);
                due("crossed() behind these" + told, lines.crossed(), 0);
                due("set(w - 1, h - 1, 5)" + told, lines.set(w - 1, h - 1, 5), true);
            }
        }
    }

    private static void setNumbers() {
        for (int v : new int[] {MOST, -MOST, MOST - 1, 1 - MOST, 0, 1, -1}) {
            Run run = lines -> due("set(1, 0, " + v + ")", lines.set(1, 0, v), true);
            due("the samples behind set(1, 0, " + v + ")", samples(run), "0 " + v + " | 0 0");
        }
        for (int v : new int[] {MOST + 1, -MOST - 1, 2 * MOST, -2 * MOST, MAX, MIN, MIN + 1}) {
            changesNothing("set(1, 1, " + v + ")", false, lines -> lines.set(1, 1, v));
            changesNothing("set(0, 0, " + v + ")", false, lines -> lines.set(0, 0, v));
        }
    }

    private static void setAndChains() {
        HeightLines lines = after(BoundariesTest::made);
        due("set(1, 1, 0)", lines.set(1, 1, 0), true);
        due("the chains behind it", chains(lines), MADE_CHAINS);
        due("within(1) behind it", lines.within(1), 1);
        due("crossed(), which is of now", lines.crossed(), 2);
        due("set(2, 2, 8)", lines.set(2, 2, 8), true);
        due("the chains behind two of them", chains(lines), MADE_CHAINS);
        // Between (2, 2) and (3, 3) the middle is below: each of the two is cut off by itself.
        due("make()", lines.make(), 2);
        due("the chains made anew", chains(lines), "11 23, [7 18 8 22]");
    }

    // Promise 4

    private static void dueRow(int w, int from, int step, String want) {
        Run run = lines -> {
            lines.field(w, 2);
            due("row(0, " + from + ", " + step + ")", lines.row(0, from, step), true);
        };
        String others = "0 ".repeat(w).trim();
        due("the samples behind row(0, " + from + ", " + step + ")", samples(run), want + " | " + others);
    }

    private static void rowNumbers() {
        String[] due = {
            "5 3 1 -1 | 0 0 0 0 | 0 0 0 0", "0 0 0 0 | 5 3 1 -1 | 0 0 0 0", "0 0 0 0 | 0 0 0 0 | 5 3 1 -1"};
        for (int k = 0; k < 3; k++) {
            int y = k;
            Run run = lines -> {
                lines.field(4, 3);
                due("row(" + y + ", 5, -2)", lines.row(y, 5, -2), true);
            };
            due("the samples behind row(" + y + ", 5, -2)", samples(run), due[y]);
        }
        dueRow(2, 7, 0, "7 7");
        dueRow(12, -6, 1, "-6 -5 -4 -3 -2 -1 0 1 2 3 4 5");
    }

    private static void rowAtBounds() {
        dueRow(4, 1000000, 0, "1000000 1000000 1000000 1000000");
        dueRow(4, 1000001, 0, "1000000 1000000 1000000 1000000");
        dueRow(4, -1000000, 0, "-1000000 -1000000 -1000000 -1000000");
        dueRow(4, -1000001, 0, "-1000000 -1000000 -1000000 -1000000");
        dueRow(4, 999998, 1, "999998 999999 1000000 1000000");
        dueRow(4, -999998, -1, "-999998 -999999 -1000000 -1000000");
        dueRow(3, -1000000, 1000000, "-1000000 0 1000000");
        dueRow(2, -1000001, 2000002, "-1000000 1000000");
        dueRow(12, -1100000, 200000,
            "-1000000 -900000 -700000 -500000 -300000 -100000 100000 300000 500000 700000 900000 1000000");
    }

    private static void rowEachByItself() {
        dueRow(4, 1000002, -1, "1000000 1000000 1000000 999999");
        dueRow(4, -1000002, 1, "-1000000 -1000000 -1000000 -999999");
        dueRow(4, 3000000, -1500000, "1000000 1000000 0 -1000000");
    }

    private static void rowWithoutWrapping() {
        dueRow(4, MAX, 0, "1000000 1000000 1000000 1000000");
        dueRow(4, MIN, 0, "-1000000 -1000000 -1000000 -1000000");
        dueRow(4, MAX, 1, "1000000 1000000 1000000 1000000");
        dueRow(4, MIN, -1, "-1000000 -1000000 -1000000 -1000000");
        dueRow(4, MAX, MAX, "1000000 1000000 1000000 1000000");
        dueRow(4, MIN, MIN, "-1000000 -1000000 -1000000 -1000000");
        dueRow(4, 0, MAX, "0 1000000 1000000 1000000");
        dueRow(4, 0, MIN, "0 -1000000 -1000000 -1000000");
        dueRow(4, MAX, MIN, "1000000 -1 -1000000 -1000000");
        dueRow(4, MIN, MAX, "-1000000 -1 1000000 1000000");
        dueRow(4, 5, 1 << 30, "5 1000000 1000000 1000000");
        dueRow(4, 5, -(1 << 30), "5 -1000000 -1000000 -1000000");
    }

    private static void rowRefused() {
        for (int y : new int[] {-1, -2, 12, 13, MIN, MAX}) {
            changesNothing("row(" + y + ", 5, 6)", false, lines -> lines.row(y, 5, 6));
            changesNothing("row(" + y + ", MAX, MIN)", false, lines -> lines.row(y, MAX, MIN));
        }
        for (int h = 2; h <= 12; h++) {
            HeightLines lines = new HeightLines();
            lines.field(3, h);
            due("row(-1, 5, 6) of " + h, lines.row(-1, 5, 6), false);
            due("row(h, 5, 6) of " + h, lines.row(h, 5, 6), false);
            due("crossed() behind these of " + h, lines.crossed(), 0);
            due("row(h - 1, 5, 6) of " + h, lines.row(h - 1, 5, 6), true);
            due("crossed() behind it of " + h, lines.crossed(), 3);
        }
    }

    private static void rowAndChains() {
        HeightLines lines = after(BoundariesTest::made);
        due("row(1, 0, 0)", lines.row(1, 0, 0), true);
        due("the chains behind it", chains(lines), MADE_CHAINS);
        due("within(1) behind it", lines.within(1), 1);
        due("crossed(), which is of now", lines.crossed(), 2);
        due("make()", lines.make(), 1);
        due("the chains made anew", chains(lines), "11 23");
    }

    // Promise 5

    private static void heightTaken() {
        for (int twice : new int[] {1, -1, 3, -3, 5, 999999, -1000001, 1999997, -1999997, 1999999, -1999999}) {
            Run run = lines -> due("height(" + twice + ")", lines.height(twice), true);
            due("the state behind height(" + twice + ")", state(run), "0 0 | 0 0; twice " + twice + "; chains ");
        }
    }

    private static void heightRefused() {
        for (int twice : new int[] {0, 2, -2, 4, -4, 1999998, -1999998, 2000000, -2000000, 2000001, -2000001,
            2000002, -2000002, MAX, MAX - 1, MIN, MIN + 1}) {
            changesNothing("height(" + twice + ")", false, lines -> lines.height(twice));
        }
    }

    private static void heightAndChains() {
        HeightLines lines = after(BoundariesTest::made);
        due("height(15)", lines.height(15), true);
        due("the chains behind it", chains(lines), MADE_CHAINS);
        due("crossed(), which is of now", lines.crossed(), 2);
        due("make()", lines.make(), 1);
        due("the chains made anew", chains(lines), "11 23");
        due("height(19)", lines.height(19), true);
        due("the chains behind height(19)", chains(lines), "11 23");
        due("make() above all", lines.make(), 0);
        due("the chains above all", chains(lines), NO_CHAINS);
    }

    // Promise 6

    private static void makeAnew() {
        GROUNDS.forEach((name, ground) -> {
            Run once = then(ground, HeightLines::make);
            Run twice = then(once, HeightLines::make);
            due("a second make() on " + name, after(once).make(), after(ground).make());
            due("the state behind a second make() on " + name, state(twice), state(once));
            due("the samples behind make() on " + name, samples(once), samples(ground));
            due("the height behind make() on " + name, twiceHeight(after(once)), twiceHeight(after(ground)));
        });
        // Seventy-two chains, then one, then none: nothing is left of those before.
        HeightLines lines = after(BoundariesTest::chequered);
        for (int y = 0; y < 12; y++) {
            lines.row(y, 0, 0);
        }
        lines.set(11, 11, 3);
        due("make() of one corner", lines.make(), 1);
        due("its chain", chains(lines), "131 263");
        for (int chain : new int[] {1, 2, 21, 22, 71}) {
            due("size(" + chain + ")", lines.size(chain), NONE);
            due("isClosed(" + chain + ")", lines.isClosed(chain), false);
            due("edge(" + chain + ", 0)", lines.edge(chain, 0), NONE);
            due("within(" + chain + ")", lines.within(chain), NONE);
        }
        lines.set(11, 11, 0);
        due("make() of none", lines.make(), 0);
        due("size(0)", lines.size(0), NONE);
    }

    private static void makeHowMany() {
        due("none above", after(lines -> fill(lines, 3, 3, 0, 0, 0, 0, 0, 0, 0, 0, 0)).make(), 0);
        due("all above", after(lines -> fill(lines, 3, 3, 1, 1, 1, 1, 1, 1, 1, 1, 1)).make(), 0);
        due("one open", after(lines -> fill(lines, 3, 3, 1, 0, 0, 0, 0, 0, 0, 0, 0)).make(), 1);
        due("one closed", after(lines -> fill(lines, 3, 3, 0, 0, 0, 0, 1, 0, 0, 0, 0)).make(), 1);
        due("four open", after(lines -> fill(lines, 3, 3, 1, 0, 1, 0, 0, 0, 1, 0, 1)).make(), 4);
        due("one open, one closed", after(BoundariesTest::made).make(), 2);
        due("each second sample of the greatest field", after(BoundariesTest::chequered).make(), 72);
    }

    // Promises 7, 8, 9 and 11

    private static void sizeOrNone() {
        HeightLines lines = after(BoundariesTest::made);
        due("size(0)", lines.size(0), 2);
        due("size(1)", lines.size(1), 4);
        HeightLines full = after(BoundariesTest::chequered);
        due("size(0), at the bottom border", full.size(0), 3);
        due("size(71), the last one", full.size(71), 4);
        due("size(72)", full.size(72), NONE);
        for (int chain : new int[] {-1, 2, 3, 132, 133, 264, MIN, MAX}) {
            due("size(" + chain + ")", lines.size(chain), NONE);
        }
        dueNoChains("no chains", then(BoundariesTest::made, made -> made.field(4, 4)));
    }

    private static void closedOrNot() {
        HeightLines lines = after(BoundariesTest::made);
        due("isClosed(0)", lines.isClosed(0), false);
        due("isClosed(1)", lines.isClosed(1), true);
        HeightLines full = after(BoundariesTest::chequered);
        due("isClosed(21), the last open one", full.isClosed(21), false);
        due("isClosed(22), the first closed one", full.isClosed(22), true);
        due("isClosed(71), the last one", full.isClosed(71), true);
        due("isClosed(72)", full.isClosed(72), false);
        for (int chain : new int[] {-1, 2, 3, 132, 133, 264, MIN, MAX}) {
            due("isClosed(" + chain + ")", lines.isClosed(chain), false);
        }
    }

    private static void edgeOrNone() {
        HeightLines lines = after(BoundariesTest::made);
        int[][] due = {{11, 23}, {3, 13, 4, 17}};
        for (int chain = 0; chain < 2; chain++) {
            for (int i = 0; i < due[chain].length; i++) {
                due("edge(" + chain + ", " + i + ")", lines.edge(chain, i), due[chain][i]);
            }
            // Just behind the first chain's edges stand the second one's: they are no edges of the first.
            for (int i : new int[] {-1, -2, due[chain].length, due[chain].length + 1, 263, 264, MIN, MAX}) {
                due("edge(" + chain + ", " + i + ")", lines.edge(chain, i), NONE);
            }
        }
        for (int chain : new int[] {-1, 2, 3, 132, 133, MIN, MAX}) {
            for (int i : new int[] {-1, 0, 1, MIN, MAX}) {
                due("edge(" + chain + ", " + i + ")", lines.edge(chain, i), NONE);
            }
        }
        HeightLines full = after(BoundariesTest::chequered);
        due("edge(71, 3), the last of all", full.edge(71, 3) != NONE, true);
        due("edge(71, 4)", full.edge(71, 4), NONE);
        due("edge(72, 0)", full.edge(72, 0), NONE);
    }

    private static void withinOddTimes() {
        HeightLines peak = after(lines -> fill(lines, 3, 3, 0, 0, 0, 0, 1, 0, 0, 0, 0));
        peak.make();
        due("within(0) of one sample", peak.within(0), 1);
        // Its legs' row is crossed four times: behind the first and the third the samples are within.
        HeightLines arch = after(lines -> fill(lines, 5, 4,
            0, 0, 0, 0, 0, 0, 1, 1, 1, 0, 0, 1, 0, 1, 0, 0, 0, 0, 0, 0));
        due("make() of an arch", arch.make(), 1);
        due("within(0) of an arch", arch.within(0), 5);
        HeightLines ring = after(lines -> fill(lines, 5, 5,
            0, 0, 0, 0, 0, 0, 1, 1, 1, 0, 0, 1, 0, 1, 0, 0, 1, 1, 1, 0, 0, 0, 0, 0, 0));
        due("make() of a ring", ring.make(), 2);
        due("within(0), the outer line of a ring", ring.within(0), 9);
        due("within(1), the inner one", ring.within(1), 1);
        HeightLines greatest = after(lines -> {
            lines.field(12, 12);
            for (int y = 1; y < 11; y++) {
                lines.row(y, 1, 0);
                lines.set(0, y, 0);
                lines.set(11, y, 0);
            }
        });
        due("make() of all but the border", greatest.make(), 1);
        due("within(0) of all but the border", greatest.within(0), 100);
    }

    private static void withinOrNone() {
        HeightLines lines = after(BoundariesTest::made);
        due("within(0), which isn't closed", lines.within(0), NONE);
        due("within(1)", lines.within(1), 1);
        for (int chain : new int[] {-1, 2, 3, 132, 133, 264, MIN, MAX}) {
            due("within(" + chain + ")", lines.within(chain), NONE);
        }
        HeightLines full = after(BoundariesTest::chequered);
        due("within(21), the last open one", full.within(21), NONE);
        due("within(22), the first closed one", full.within(22), 1);
        due("within(71), the last one", full.within(71), 1);
        due("within(72)", full.within(72), NONE);
    }

    // Promise 10

    private static void crossingNow() {
        HeightLines lines = after(BoundariesTest::made);
        due("crossing(3) as made", fraction(lines, 3), "13/24");
        lines.set(1, 1, 2);
        due("crossing(3) behind set(1, 1, 2)", fraction(lines, 3), "13/14");
        lines.height(-9);
        due("crossing(3) behind height(-9)", fraction(lines, 3), "1/14");
        lines.row(1, 7, -14);
        due("crossing(3) behind row(1, 7, -14)", fraction(lines, 3), "23/28");
        lines.field(4, 4);
        due("crossing(3) behind field(4, 4)", fraction(lines, 3), THROWS + "/" + THROWS);
    }

    private static void crossingLeastTerms() {
        // Twice the height, the first sample, the second one, and the fraction that is due.
        int[][] cases = {
            {1, 0, 1, 1, 2}, {1, 1, 0, 1, 2}, {3, 0, 6, 1, 4}, {3, 6, 0, 3, 4}, {15, 0, 15, 1, 2}, {9, -3, 12, 1, 2},
            {-3, -6, 0, 3, 4}, {-3, 0, -6, 1, 4}, {5, 0, 3, 5, 6}, {625, 0, 1000000, 1, 3200}, {7, 0, 1000000, 7, 2000000},
            {1999999, -1000000, 1000000, 3999999, 4000000}, {1999999, 1000000, -1000000, 1, 4000000},
            {-1999999, -1000000, 1000000, 1, 4000000}, {-1999999, 1000000, -1000000, 3999999, 4000000},
            {1999999, 999999, 1000000, 1, 2}, {-1999999, -999999, -1000000, 1, 2}};
        for (int[] one : cases) {
            HeightLines lines = after(fresh -> fill(fresh, 2, 2, one[1], one[2], one[2], one[2]));
            lines.height(one[0]);
            String told = " from " + one[1] + " to " + one[2] + " at twice " + one[0];
            due("the upper number, what 0," + told, crossing(lines, 0, 0), one[3]);
            due("the lower number, what 1," + told, crossing(lines, 0, 1), one[4]);
            due("the upper number upward" + told, crossing(lines, 2, 0), one[3]);
            due("the lower number upward" + told, crossing(lines, 2, 1), one[4]);
        }
    }

    private static void crossingNoSuchEdge() {
        for (int w = 2; w <= 12; w++) {
            for (int h = 2; h <= 12; h++) {
                HeightLines lines = new HeightLines();
                lines.field(w, h);
                lines.set(0, 0, 1);
                lines.set(w - 1, h - 1, 1);
                int edges = h * (w - 1) + (h - 1) * w;
                String told = " of " + w + " by " + h;
                due("crossing(0), the first edge" + told, fraction(lines, 0), "1/2");
                due("the last edge" + told, fraction(lines, edges - 1), "1/2");
                for (int edge : new int[] {-1, edges, edges + 1, 264, MIN, MAX}) {
                    due("crossing(" + edge + ")" + told, fraction(lines, edge), THROWS + "/" + THROWS);
                }
            }
        }
    }

    private static void crossingNotCrossed() {
        // Below and below, above and above, each as near the height as can be; then one of each.
        int[][] cases = {{0, 0}, {1, 1}, {0, -1000000}, {1, 1000000}, {-1000000, -1000000}, {1000000, 1000000}};
        for (int[] one : cases) {
            HeightLines lines = after(fresh -> fill(fresh, 2, 2, one[0], one[1], one[0], one[1]));
            due("from " + one[0] + " to " + one[1], fraction(lines, 0), THROWS + "/" + THROWS);
        }
        HeightLines lines = after(fresh -> fill(fresh, 2, 2, 0, 1, 1, 0));
        for (int edge = 0; edge < 4; edge++) {
            due("crossing(" + edge + ") from 0 to 1 or back", fraction(lines, edge), "1/2");
        }
    }

    private static void crossingAnotherWhat() {
        HeightLines lines = after(BoundariesTest::made);
        due("crossing(3, 0)", crossing(lines, 3, 0), 13);
        due("crossing(3, 1)", crossing(lines, 3, 1), 24);
        for (int what : new int[] {-1, 2, 3, 256, MIN, MAX}) {
            due("crossing(3, " + what + ")", crossing(lines, 3, what), THROWS);
            due("crossing(0, " + what + "), not crossed", crossing(lines, 0, what), THROWS);
            due("crossing(24, " + what + "), no edge", crossing(lines, 24, what), THROWS);
        }
    }

    private static void crossingThrown() {
        changesNothing("crossing(264, 0)", THROWS, lines -> crossing(lines, 264, 0));
        changesNothing("crossing(-1, 1)", THROWS, lines -> crossing(lines, -1, 1));
        changesNothing("crossing(0, 2)", THROWS, lines -> crossing(lines, 0, 2));
    }

    // Promise 12

    private static void crossedNow() {
        due("of a new object", new HeightLines().crossed(), 0);
        HeightLines full = after(BoundariesTest::chequered);
        due("of the greatest field, all", full.crossed(), 264);
        full.height(3);
        due("behind a height above all", full.crossed(), 0);
        full.height(-1);
        due("behind a height below all", full.crossed(), 0);
        full.height(1);
        full.set(0, 0, 1);
        due("behind set(0, 0, 1)", full.crossed(), 262);
        full.row(0, 1, 0);
        due("behind row(0, 1, 0)", full.crossed(), 264 - 11 - 6);
        full.field(12, 12);
        due("behind field(12, 12)", full.crossed(), 0);
        due("before chains are made", after(lines -> lines.set(1, 1, 1)).crossed(), 2);
    }

    // Every call

    private static void asksChangeNothing() {
        for (int n : new int[] {MIN, -1, 0, 1, 71, 72, MAX}) {
            GROUNDS.forEach((name, ground) -> {
                Run run = lines -> {
                    ground.on(lines);
                    lines.size(n);
                    lines.isClosed(n);
                    lines.edge(n, n);
                    lines.within(n);
                    crossing(lines, n, 0);
                    crossing(lines, n, 1);
                    lines.crossed();
                };
                due("the state behind all questions with " + n + " on " + name, state(run), state(ground));
            });
        }
    }

    private static void nothingElseIsThrown() {
        int[] numbers = {MIN, MIN + 1, -2000001, -1000001, -13, -2, -1, 0, 1, 2, 3, 4, 5, 11, 12, 13, 22, 71, 72, 131, 132,
            133, 143, 144, 145, 263, 264, 265, 65536, 1000001, 2000001, MAX - 1, MAX};
        GROUNDS.forEach((name, ground) -> {
            for (int one : numbers) {
                for (int other : numbers) {
                    try {
                        callAll(after(ground), one, other);
                        asked++;
                    } catch (RuntimeException e) {
                        due("calls with " + one + " and " + other + " on " + name, e, "nothing thrown");
                    }
                }
            }
        });
    }

    private static void callAll(HeightLines lines, int one, int other) {
        crossing(lines, one, other);
        lines.edge(one, other);
        lines.size(one);
        lines.isClosed(one);
        lines.within(one);
        lines.set(one, other, one);
        lines.set(one, other, 3);
        lines.row(one, other, other);
        lines.row(0, one, other);
        lines.height(one);
        lines.make();
        lines.edge(one, other);
        lines.within(one);
        crossing(lines, one, 0);
        lines.field(one, other);
        lines.make();
        lines.crossed();
    }

    public static void main(String[] args) {
        test("1 'A field of 2 by 2 samples 0, the height 1/2'", BoundariesTest::newField);
        test("1 'no chains'", BoundariesTest::newChains);
        test("1 a new object beside an old one", BoundariesTest::newBesideOld);
        test("2 'w and h from 2 to 12'", BoundariesTest::fieldSides);
        test("2 'A field of w by h samples 0'", BoundariesTest::fieldSamples);
        test("2 'no chains'", BoundariesTest::fieldChains);
        test("2 '(the height stays)'", BoundariesTest::fieldHeight);
        test("2 'false, changing nothing, for other numbers'", BoundariesTest::fieldRefused);
        test("3 'A sample'", BoundariesTest::setOne);
        test("3 'false when there is none'", BoundariesTest::setBeside);
        test("3 'or for another number'", BoundariesTest::setNumbers);
        test("3 'Chains stay as they are till they are made anew'", BoundariesTest::setAndChains);
        test("4 'The samples of row y become from, from + step, ..'", BoundariesTest::rowNumbers);
        test("4 '(each held to the bounds)'", BoundariesTest::rowAtBounds);
        test("4 '(each held to the bounds)', each by itself", BoundariesTest::rowEachByItself);
        test("4 '(each held to the bounds)', without wrap-around", BoundariesTest::rowWithoutWrapping);
        test("4 'false when there is none such'", BoundariesTest::rowRefused);
        test("4 '(Chains stay, as with set().)'", BoundariesTest::rowAndChains);
        test("5 'half of an odd number, -1999999 .. 1999999'", BoundariesTest::heightTaken);
        test("5 'false for another one'", BoundariesTest::heightRefused);
        test("5 '(Chains stay, as with set().)'", BoundariesTest::heightAndChains);
        test("6 'The chains are made'", BoundariesTest::makeAnew);
        test("6 'how many'", BoundariesTest::makeHowMany);
        test("7 'NONE when there is none'", BoundariesTest::sizeOrNone);
        test("8 'false when there is none'", BoundariesTest::closedOrNot);
        test("9 'NONE when there is none'", BoundariesTest::edgeOrNone);
        test("10 'Where an edge is crossed now'", BoundariesTest::crossingNow);
        test("10 'a fraction in least terms', 'the lower number (above 0)'", BoundariesTest::crossingLeastTerms);
        test("10 'no such edge'", BoundariesTest::crossingNoSuchEdge);
        test("10 'or it isn't crossed'", BoundariesTest::crossingNotCrossed);
        test("10 'or another what'", BoundariesTest::crossingAnotherWhat);
        test("10 a call that throws", BoundariesTest::crossingThrown);
        test("11 'it is crossed an odd number of times'", BoundariesTest::withinOddTimes);
        test("11 'NONE when there is none, or it isn't closed'", BoundariesTest::withinOrNone);
        test("12 'How many edges are crossed now'", BoundariesTest::crossedNow);
        test("7 to 12 questions change nothing", BoundariesTest::asksChangeNothing);
        test("1 to 12 nothing else is thrown", BoundariesTest::nothingElseIsThrown);
        System.out.println(wrong == 0 ? "all answers are as due" : wrong + " answers are not as due");
        if (wrong != 0) {
            System.exit(1);
        }
    }
}
