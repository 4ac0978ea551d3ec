import java.util.NoSuchElementException;

/** Each promise of the document by runs worked out by hand: ordinary inputs, edges, wrong inputs. */
public final class PromisesTest {
    private static final int MIN = Integer.MIN_VALUE;
    private static final int MAX = Integer.MAX_VALUE;
    private static final int NONE = HeightLines.NONE;
    private static final String THROWS = "throws";

    private static int wrong = 0;

    private static void due(String what, Object got, Object want) {
        if (!got.equals(want)) {
            wrong++;
            System.out.println(what + " answered " + got + ", due is " + want);
        }
    }

    private static HeightLines of(int w, int h) {
        HeightLines lines = new HeightLines();
        due("field(" + w + ", " + h + ")", lines.field(w, h), true);
        return lines;
    }

    /** Samples written as on a map: the last row is y = 0. */
    private static HeightLines map(int[]... rowsFromTop) {
        HeightLines lines = of(rowsFromTop[0].length, rowsFromTop.length);
        for (int y = 0; y < rowsFromTop.length; y++) {
            int[] values = rowsFromTop[rowsFromTop.length - 1 - y];
            for (int x = 0; x < values.length; x++) {
                due("set(" + x + ", " + y + ")", lines.set(x, y, values[x]), true);
            }
        }
        return lines;
    }

    private static int[] r(int... values) {
        return values;
    }

    private static HeightLines cell(int a, int b, int c, int d) {
        return map(r(d, c), r(a, b));
    }

    private static String part(HeightLines lines, int edge, int what) {
        try {
            return String.valueOf(lines.crossing(edge, what));
        } catch (NoSuchElementException e) {
            return THROWS;
        }
    }

    private static String fraction(HeightLines lines, int edge) {
        String upper = part(lines, edge, 0);
        String lower = part(lines, edge, 1);
        return upper.equals(THROWS) && lower.equals(THROWS) ? THROWS : upper + "/" + lower;
    }

    /** Every chain as it is held now: its edges, closed ones in brackets. */
    private static String chains(HeightLines lines) {
        StringBuilder text = new StringBuilder();
        for (int chain = 0; lines.size(chain) != NONE; chain++) {
            StringBuilder edges = new StringBuilder();
            for (int i = 0; i < lines.size(chain); i++) {
                edges.append(i == 0 ? "" : " ").append(lines.edge(chain, i));
            }
            text.append(chain == 0 ? "" : ", ");
            text.append(lines.isClosed(chain) ? "[" + edges + "]" : edges);
        }
        return text.toString();
    }

    private static void dueChains(String what, HeightLines lines, int count, String want) {
        due(what + ", make()", lines.make(), count);
        due(what, chains(lines), want);
    }

    private static void newObject() {
        HeightLines lines = new HeightLines();
        due("1: NONE", NONE, -1);
        due("1: size(0)", lines.size(0), NONE);
        due("1: isClosed(0)", lines.isClosed(0), false);
        due("1: edge(0, 0)", lines.edge(0, 0), NONE);
        due("1: within(0)", lines.within(0), NONE);
        due("1: crossed()", lines.crossed(), 0);
        due("1: crossing(0)", fraction(lines, 0), THROWS);
        due("1: make()", lines.make(), 0);
        due("1: set(2, 0, 1)", lines.set(2, 0, 1), false);
        due("1: set(0, 2, 1)", lines.set(0, 2, 1), false);
        due("1: set(1, 1, 5)", lines.set(1, 1, 5), true);
        due("1: the height, from 0 to 5 along the top", fraction(lines, 1), "1/10");
        due("1: the height, from 0 to 5 along the right", fraction(lines, 3), "1/10");
        due("1: crossed() of one sample above", lines.crossed(), 2);
        due("1: another object is another field", new HeightLines().crossed(), 0);
    }

    private static void fieldSizes() {
        int[] bad = {1, 13, 0, -1, -2, 258, MIN, MAX};
        HeightLines lines = map(r(0, 0, 0), r(0, 4, 0), r(0, 0, 0));
        lines.make();
        for (int side : bad) {
            due("2: field(" + side + ", 3)", lines.field(side, 3), false);
            due("2: field(3, " + side + ")", lines.field(3, side), false);
            due("2: field(" + side + ", same)", lines.field(side, side), false);
        }
        due("2: chains after refused fields", chains(lines), "[2 7 3 10]");
        due("2: samples after refused fields", lines.crossed(), 4);
        due("2: size after refused fields", lines.set(2, 2, 0) && !lines.set(3, 0, 0) && !lines.set(0, 3, 0), true);
        for (int w = 2; w <= 12; w++) {
            for (int h = 2; h <= 12; h++) {
                HeightLines other = of(w, h);
                due("2: last sample of " + w + " by " + h, other.set(w - 1, h - 1, 1), true);
                due("2: x beyond " + w + " by " + h, other.set(w, h - 1, 1), false);
                due("2: y beyond " + w + " by " + h, other.set(w - 1, h, 1), false);
                int edges = h * (w - 1) + (h - 1) * w;
                due("2: last edge of " + w + " by " + h, fraction(other, edges - 1), "1/2");
                due("2: edge beyond " + w + " by " + h, fraction(other, edges), THROWS);
            }
        }
    }

    private static void fieldStartsAnew() {
        HeightLines lines = map(r(0, 0, 0), r(0, 4, 0), r(0, 0, 0));
        due("2: height(3)", lines.height(3), true);
        lines.make();
        due("2: field(3, 3) once more", lines.field(3, 3), true);
        due("2: samples are 0 again", lines.crossed(), 0);
        due("2: no chains, size", lines.size(0), NONE);
        due("2: no chains, isClosed", lines.isClosed(0), false);
        due("2: no chains, edge", lines.edge(0, 0), NONE);
        due("2: no chains, within", lines.within(0), NONE);
        lines.set(1, 0, 3);
        due("2: the height stays", fraction(lines, 0), "1/2");
        lines.field(12, 12);
        for (int y = 0; y < 12; y++) {
            lines.row(y, 9, 0);
        }
        lines.field(2, 2);
        lines.field(12, 12);
        due("2: nothing is left of a greater field", lines.crossed(), 0);
        due("2: make() of a field of 0", lines.make(), 0);
    }

    private static void setSample() {
        HeightLines lines = of(3, 2);
        int[][] outside = {{-1, 0}, {3, 0}, {0, -1}, {0, 2}, {3, 1}, {-3, 1}, {MIN, 0}, {MAX, 0}, {0, MIN}, {0, MAX}, {-1, 1}};
        for (int[] at : outside) {
            due("3: set(" + at[0] + ", " + at[1] + ", 5)", lines.set(at[0], at[1], 5), false);
        }
        due("3: nothing was set outside", lines.crossed(), 0);
        due("3: set(1, 0, 1000000)", lines.set(1, 0, 1000000), true);
        due("3: set(2, 0, -1000000)", lines.set(2, 0, -1000000), true);
        for (int v : new int[] {1000001, -1000001, MIN, MAX}) {
            due("3: set(1, 0, " + v + ")", lines.set(1, 0, v), false);
            due("3: set(2, 0, " + v + ")", lines.set(2, 0, v), false);
        }
        due("3: from 0 to 1000000", fraction(lines, 0), "1/2000000");
        due("3: from 1000000 to -1000000", fraction(lines, 1), "1999999/4000000");
        lines.make();
        String made = chains(lines);
        lines.set(1, 0, 0);
        due("3: chains stay with set()", chains(lines), made);
        due("3: crossed() is of now", lines.crossed(), 0);
        dueChains("3: chains made anew", lines, 0, "");
    }

    private static void rowOfSamples() {
        HeightLines lines = of(4, 2);
        for (int y : new int[] {-1, 2, MIN, MAX}) {
            due("4: row(" + y + ", 5, 5)", lines.row(y, 5, 5), false);
        }
        due("4: nothing was set by refused rows", lines.crossed(), 0);
        due("4: row(1, 1, 2)", lines.row(1, 1, 2), true);
        due("4: the other row stays, all upward edges are crossed", lines.crossed(), 4);
        due("4: row 1, x 0", fraction(lines, 6), "1/2");
        due("4: row 1, x 1", fraction(lines, 7), "1/6");
        due("4: row 1, x 2", fraction(lines, 8), "1/10");
        due("4: row 1, x 3", fraction(lines, 9), "1/14");
        lines.make();
        String made = chains(lines);
        due("4: row(1, 0, 0)", lines.row(1, 0, 0), true);
        due("4: chains stay with row()", chains(lines), made);
        due("4: made anew", lines.make(), 0);
    }

    private static void rowHeldToBounds() {
        HeightLines lines = of(4, 2);
        due("4: row(0, -2000000, 1000000)", lines.row(0, -2000000, 1000000), true);
        due("4: 0 to 1000000", fraction(lines, 2), "1/2000000");
        lines.height(-1);
        due("4: -1000000 to -1000000", fraction(lines, 0), THROWS);
        due("4: -1000000 to 0", fraction(lines, 1), "1999999/2000000");
        // Each sample is held by itself: the next one goes on from what it would have been.
        due("4: row(0, 2000000, -600000)", lines.row(0, 2000000, -600000), true);
        lines.height(1999999);
        due("4: 1000000 to 1000000", fraction(lines, 0), THROWS);
        due("4: 1000000 to 800000", fraction(lines, 1), "1/400000");
        lines.height(1);
        due("4: row(0, MAX, MAX)", lines.row(0, MAX, MAX), true);
        due("4: all of it is above", lines.crossed(), 4);
        due("4: 1000000 at the end", fraction(lines, 9), "1999999/2000000");
        due("4: row(0, MIN, MIN)", lines.row(0, MIN, MIN), true);
        due("4: all of it is below", lines.crossed(), 0);
        lines.height(-1999999);
        due("4: -1000000 at the end", fraction(lines, 9), "1/2000000");
        due("4: row(0, MAX, MIN)", lines.row(0, MAX, MIN), true);
        lines.height(1);
        due("4: 1000000 to -1", fraction(lines, 0), "1999999/2000002");
        lines.height(-3);
        due("4: -1 to -1000000", fraction(lines, 1), "1/1999998");
        due("4: -1000000 to -1000000 at the end", fraction(lines, 2), THROWS);
    }

    private static void heightOfLines() {
        HeightLines lines = cell(0, 5, 5, 0);
        lines.make();
        for (int twice : new int[] {0, 2, -2, 4, 1999998, 2000000, -2000000, 2000001, -2000001, MIN, MAX, MIN + 1}) {
            due("5: height(" + twice + ")", lines.height(twice), false);
            due("5: it stays after height(" + twice + ")", fraction(lines, 0), "1/10");
        }
        due("5: height(9)", lines.height(9), true);
        due("5: 9/2 from 0 to 5", fraction(lines, 0), "9/10");
        due("5: height(-1)", lines.height(-1), true);
        due("5: -1/2 is below all", lines.crossed(), 0);
        due("5: chains stay with height()", chains(lines), "1 0");
        due("5: made anew", lines.make(), 0);
        due("5: height(1999999)", lines.height(1999999), true);
        lines.set(0, 0, 1000000);
        due("5: 1000000 is above 1999999/2", lines.crossed(), 2);
        lines.set(0, 0, 999999);
        due("5: 999999 is below 1999999/2", lines.crossed(), 0);
        due("5: height(-1999999)", lines.height(-1999999), true);
        lines.set(0, 0, -1000000);
        due("5: -1000000 is below -1999999/2", lines.crossed(), 2);
        lines.set(0, 0, -999999);
        due("5: -999999 is above -1999999/2", lines.crossed(), 0);
    }

    // Of one cell of 2 by 2 samples the bottom is edge 0, the top 1, the left 2, the right 3.
    private static void makeOneCell() {
        dueChains("6: none above", cell(0, 0, 0, 0), 0, "");
        dueChains("6: all above", cell(9, 9, 9, 9), 0, "");
        dueChains("6: a above", cell(9, 0, 0, 0), 1, "0 2");
        dueChains("6: b above", cell(0, 9, 0, 0), 1, "3 0");
        dueChains("6: c above", cell(0, 0, 9, 0), 1, "1 3");
        dueChains("6: d above", cell(0, 0, 0, 9), 1, "2 1");
        dueChains("6: a below", cell(0, 9, 9, 9), 1, "2 0");
        dueChains("6: b below", cell(9, 0, 9, 9), 1, "0 3");
        dueChains("6: c below", cell(9, 9, 0, 9), 1, "3 1");
        dueChains("6: d below", cell(9, 9, 9, 0), 1, "1 2");
        dueChains("6: a, b above", cell(9, 9, 0, 0), 1, "3 2");
        dueChains("6: b, c above", cell(0, 9, 9, 0), 1, "1 0");
        dueChains("6: c, d above", cell(0, 0, 9, 9), 1, "2 3");
        dueChains("6: d, a above", cell(9, 0, 0, 9), 1, "0 1");
    }

    private static void makeFourCrossed() {
        dueChains("6: a, c and the middle above", cell(2, 0, 2, 0), 2, "0 3, 1 2");
        dueChains("6: a, c above, the middle below", cell(1, -2, 1, -2), 2, "0 2, 1 3");
        dueChains("6: a, c above, the middle at the height", cell(1, 0, 1, 0), 2, "0 2, 1 3");
        dueChains("6: b, d and the middle above", cell(0, 2, 0, 2), 2, "2 0, 3 1");
        dueChains("6: b, d above, the middle below", cell(-2, 1, -2, 1), 2, "2 1, 3 0");
        dueChains("6: b, d above, the middle at the height", cell(0, 1, 0, 1), 2, "2 1, 3 0");
        // The middle is not the mean of the corners: here 81 / 118, and the mean is below 0,
        dueChains("6: the mean below, the middle above", cell(9, 0, 9, -100), 2, "0 3, 1 2");
        // and here 0 / 18, and the mean is 1.
        dueChains("6: the mean above, the middle below", cell(10, -2, 1, -5), 2, "0 2, 1 3");
    }

    private static void makeGreatNumbers() {
        int[] twices = {999999, 1000001};
        String[] above = {"0 3, 1 2", "2 0, 3 1"};
        String[] below = {"0 2, 1 3", "2 1, 3 0"};
        for (int k = 0; k < 2; k++) {
            HeightLines one = cell(1000000, 0, 1000000, 0);
            one.height(twices[k]);
            dueChains("6: middle 500000 at twice " + twices[k], one, 2, k == 0 ? above[0] : below[0]);
            HeightLines other = cell(0, 1000000, 0, 1000000);
            other.height(twices[k]);
            dueChains("6: turned, middle 500000 at twice " + twices[k], other, 2, k == 0 ? above[1] : below[1]);
            HeightLines deep = cell(0, -1000000, 0, -1000000);
            deep.height(-twices[k]);
            dueChains("6: middle -500000 at twice " + -twices[k], deep, 2, k == 0 ? below[0] : above[0]);
        }
    }

    private static void makeChains() {
        dueChains("6: a peak", map(r(0, 0, 0), r(0, 4, 0), r(0, 0, 0)), 1, "[2 7 3 10]");
        HeightLines pit = map(r(0, 0, 0), r(0, -4, 0), r(0, 0, 0));
        pit.height(-1);
        dueChains("6: a pit", pit, 1, "[2 10 3 7]");
        dueChains("6: those that aren't closed first",
            map(r(0, 0, 0, 5), r(0, 0, 0, 0), r(0, 5, 0, 0), r(0, 0, 0, 0)), 2, "11 23, [3 13 4 17]");
        dueChains("6: two peaks apart",
            map(r(0, 0, 0, 0), r(0, 0, 1, 0), r(0, 1, 0, 0), r(0, 0, 0, 0)), 2, "[3 13 4 17], [7 18 8 22]");
        dueChains("6: two peaks together",
            map(r(0, 0, 0, 0), r(0, 0, 3, 0), r(0, 3, 0, 0), r(0, 0, 0, 0)), 1, "[3 13 4 18 8 22 7 17]");
        HeightLines slope = of(4, 2);
        slope.row(0, -1, 1);
        slope.row(1, -1, 1);
        dueChains("6: a slope of 4 by 2", slope, 1, "4 1");
        HeightLines tall = of(2, 4);
        tall.row(2, 9, 0);
        tall.row(3, 9, 0);
        dueChains("6: a slope of 2 by 4", tall, 1, "6 7");
        due("6: made twice, the same", tall.make(), 1);
        due("6: made twice, the same chains", chains(tall), "6 7");
    }

    private static void makeFullField() {
        HeightLines lines = of(12, 12);
        for (int y = 0; y < 12; y++) {
            for (int x = 0; x < 12; x++) {
                lines.set(x, y, (x + y) % 2);
            }
        }
        due("12: every edge is crossed", lines.crossed(), 264);
        // Every middle is at the height, so each of the 72 samples above is cut off by itself:
        // 50 inside the border, 22 on it, of these two in corners.
        due("6: one chain for each sample above", lines.make(), 72);
        due("8: the last open one", lines.isClosed(21), false);
        due("8: the first closed one", lines.isClosed(22), true);
        int edges = 0;
        for (int chain = 0; chain < 72; chain++) {
            edges += lines.size(chain);
            due("11: within(" + chain + ")", lines.within(chain), chain < 22 ? NONE : 1);
        }
        due("7: each edge is in one chain", edges, 264);
    }

    private static void askOfChains() {
        HeightLines lines = map(r(0, 0, 0, 5), r(0, 0, 0, 0), r(0, 5, 0, 0), r(0, 0, 0, 0));
        lines.make();
        due("7: size(0)", lines.size(0), 2);
        due("7: size(1)", lines.size(1), 4);
        due("8: isClosed(0)", lines.isClosed(0), false);
        due("8: isClosed(1)", lines.isClosed(1), true);
        due("9: edge(0, 1)", lines.edge(0, 1), 23);
        due("9: edge(1, 0)", lines.edge(1, 0), 3);
        due("9: edge(1, 3)", lines.edge(1, 3), 17);
        due("11: within(0)", lines.within(0), NONE);
        due("11: within(1)", lines.within(1), 1);
        for (int chain : new int[] {-1, 2, 3, 264, 1000, MIN, MAX}) {
            due("7: size(" + chain + ")", lines.size(chain), NONE);
            due("8: isClosed(" + chain + ")", lines.isClosed(chain), false);
            due("9: edge(" + chain + ", 0)", lines.edge(chain, 0), NONE);
            due("11: within(" + chain + ")", lines.within(chain), NONE);
        }
        for (int i : new int[] {-1, 2, 3, 4, 264, MIN, MAX}) {
            due("9: edge(0, " + i + ")", lines.edge(0, i), NONE);
        }
        for (int i : new int[] {-1, 4, 5, MIN, MAX}) {
            due("9: edge(1, " + i + ")", lines.edge(1, i), NONE);
        }
    }

    private static void crossingOfEdges() {
        HeightLines lines = cell(0, 6, 6, 0);
        lines.height(3);
        due("10: 3/2 from 0 to 6", fraction(lines, 0), "1/4");
        lines.set(0, 1, 6);
        lines.set(1, 1, 0);
        due("10: 3/2 from 6 to 0", fraction(lines, 1), "3/4");
        due("10: 3/2 upward from 0 to 6", fraction(lines, 2), "1/4");
        due("10: 3/2 upward from 6 to 0", fraction(lines, 3), "3/4");
        for (int edge : new int[] {-1, 4, 264, MIN, MAX}) {
            due("10: crossing(" + edge + ")", fraction(lines, edge), THROWS);
        }
        for (int what : new int[] {-1, 2, MIN, MAX}) {
            due("10: crossing(0, " + what + ")", part(lines, 0, what), THROWS);
        }
        lines.set(1, 0, 1);
        due("10: no longer crossed", fraction(lines, 0), THROWS);
        lines.height(-3);
        lines.set(0, 0, -7);
        lines.set(1, 0, -1);
        due("10: -3/2 from -7 to -1", fraction(lines, 0), "11/12");
        lines.set(0, 0, -1000000);
        lines.set(1, 0, 1000000);
        lines.height(1999999);
        due("10: from end to end", fraction(lines, 0), "3999999/4000000");
        lines.height(-1999999);
        due("10: from end to end, low", fraction(lines, 0), "1/4000000");
        lines.height(625);
        lines.set(0, 0, 0);
        lines.set(1, 0, 1000000);
        due("10: 625/2 of 1000000", fraction(lines, 0), "1/3200");
    }

    private static void samplesWithin() {
        HeightLines ring = map(r(0, 0, 0, 0, 0), r(0, 1, 1, 1, 0), r(0, 1, 0, 1, 0), r(0, 1, 1, 1, 0), r(0, 0, 0, 0, 0));
        due("11: a ring has two lines", ring.make(), 2);
        due("7: the outer one", ring.size(0), 12);
        due("7: the inner one", ring.size(1), 4);
        due("9: the inner one begins at its least edge", ring.edge(1, 0), 9);
        due("11: within the outer one", ring.within(0), 9);
        due("11: within the inner one", ring.within(1), 1);
        ring.row(2, 7, 0);
        ring.height(1999999);
        due("11: the chain as it was made", ring.within(0), 9);
        // Open to the right: row 2 is left and entered again.
        HeightLines horseshoe = map(r(0, 0, 0, 0, 0), r(0, 1, 1, 1, 0), r(0, 1, 0, 0, 0), r(0, 1, 1, 1, 0), r(0, 0, 0, 0, 0));
        due("11: a horseshoe has one line", horseshoe.make(), 1);
        due("11: within it", horseshoe.within(0), 7);
        HeightLines line = of(6, 3);
        line.row(1, 9, 0);
        line.set(0, 1, 0);
        line.set(5, 1, 0);
        due("11: four samples in a row", line.make(), 1);
        due("11: within them", line.within(0), 4);
    }

    private static void crossedEdges() {
        HeightLines lines = of(3, 3);
        due("12: none", lines.crossed(), 0);
        lines.set(1, 1, 1);
        due("12: round the middle one", lines.crossed(), 4);
        lines.set(0, 0, 1);
        due("12: and a corner", lines.crossed(), 6);
        lines.set(0, 1, 1);
        due("12: and what joins them", lines.crossed(), 5);
        lines.height(3);
        due("12: a greater height", lines.crossed(), 0);
        lines.height(-1);
        due("12: a lower height", lines.crossed(), 0);
    }

    public static void main(String[] args) {
        newObject();
        fieldSizes();
        fieldStartsAnew();
        setSample();
        rowOfSamples();
        rowHeldToBounds();
        heightOfLines();
        makeOneCell();
        makeFourCrossed();
        makeGreatNumbers();
        makeChains();
        makeFullField();
        askOfChains();
        crossingOfEdges();
        samplesWithin();
        crossedEdges();
        System.out.println(wrong == 0 ? "all answers are as due" : wrong + " answers are not as due");
        if (wrong != 0) {
            System.exit(1);
        }
    }
}
