import java.util.Arrays;
import java.util.NoSuchElementException;
import java.util.TreeSet;

/** The boundary cases that "What it is" and "Terms" name, a test of its own for each sentence. */
public final class TermsTest {
    private static final int NONE = HeightLines.NONE;
    private static final int MOST = 1000000;

    private static String sentence = "";
    private static int asked = 0;
    private static int wrong = 0;

    private static void due(String what, Object got, Object want) {
        asked++;
        if (!got.equals(want)) {
            wrong++;
            System.out.println(sentence + ": " + what + " answered " + got + ", due is " + want);
        }
    }

    private static void test(String itsSentence, Runnable body) {
        sentence = itsSentence;
        int askedBefore = asked;
        body.run();
        due("whether anything was asked", asked > askedBefore, true);
    }

    /** Samples row after row from y = 0. */
    private static HeightLines of(int w, int h, int... values) {
        HeightLines lines = new HeightLines();
        due("field(" + w + ", " + h + ")", lines.field(w, h), true);
        for (int k = 0; k < values.length; k++) {
            due("set(" + k % w + ", " + k / w + ")", lines.set(k % w, k / w, values[k]), true);
        }
        return lines;
    }

    private static String crossing(HeightLines lines, int edge) {
        try {
            return lines.crossing(edge, 0) + "/" + lines.crossing(edge, 1);
        } catch (NoSuchElementException e) {
            return "none";
        }
    }

    private static String chain(HeightLines lines, int chain) {
        StringBuilder edges = new StringBuilder();
        for (int i = 0; i < lines.size(chain); i++) {
            edges.append(i == 0 ? "" : " ").append(lines.edge(chain, i));
        }
        return lines.isClosed(chain) ? "[" + edges + "]" : edges.toString();
    }

    private static String made(HeightLines lines) {
        int count = lines.make();
        StringBuilder text = new StringBuilder();
        for (int chain = 0; chain < count; chain++) {
            text.append(chain == 0 ? "" : ", ").append(chain(lines, chain));
        }
        return text.toString();
    }

    // What it is

    private static void manyCalls() {
        HeightLines lines = new HeightLines();
        int calls = 0;
        lines.field(12, 12);
        calls++;
        for (int y = 0; y < 12; y++) {
            for (int x = 0; x < 12; x++) {
                lines.set(x, y, (x + y) % 2);
                calls++;
            }
        }
        while (calls < 508) {
            due("make() as call " + (calls + 1), lines.make(), 72);
            due("within(71) as call " + (calls + 2), lines.within(71), 1);
            due("crossed() as call " + (calls + 3), lines.crossed(), 264);
            calls += 3;
        }
        due("calls so far", calls, 508);
        due("set(0, 0, 1) as call 509", lines.set(0, 0, 1), true);
        // The two chains beside the corner have become one, of the edges 1, 133, 11 and 144.
        due("make() as call 510", lines.make(), 71);
        due("size(0) as call 511", lines.size(0), 4);
        due("crossed() as call 512", lines.crossed(), 262);
    }

    private static void manyObjects() {
        HeightLines[] all = new HeightLines[200];
        for (int k = 0; k < all.length; k++) {
            all[k] = of(3, 3, 0, 0, 0, 0, k % 2, 0, 0, 0, 0);
            all[k].make();
        }
        for (int k = 0; k < all.length; k++) {
            due("size(0) of object " + k, all[k].size(0), k % 2 == 0 ? NONE : 4);
        }
    }

    // Samples and the height

    private static void aboveOrBelow() {
        int[][] cases = {{1, 1, 0}, {-1, 0, -1}, {3, 2, 1}, {-3, -1, -2}, {1999999, MOST, MOST - 1}, {-1999999, 1 - MOST, -MOST}};
        for (int[] one : cases) {
            HeightLines lines = of(2, 2, one[1], one[2], one[2], one[2]);
            lines.height(one[0]);
            due("crossed() with " + one[1] + " above " + one[0] + "/2 and " + one[2] + " below", lines.crossed(), 2);
            due("and which way", made(lines), "0 2");
            lines.height(one[0] > 0 ? one[0] - 2 : one[0] + 2);
            lines.set(0, 0, one[2]);
            due("crossed() with all alike", lines.crossed(), 0);
        }
    }

    // Edges

    private static void edgeNumbers() {
        for (int w = 2; w <= 12; w++) {
            for (int h = 2; h <= 12; h++) {
                oneSampleEach(w, h);
            }
        }
    }

    /** Of 0 all around and one 3 the height 1/2 crosses what goes from it at 5/6, to it at 1/6. */
    private static void oneSampleEach(int w, int h) {
        HeightLines lines = of(w, h);
        int edges = h * (w - 1) + (h - 1) * w;
        for (int y = 0; y < h; y++) {
            for (int x = 0; x < w; x++) {
                lines.set(x, y, 3);
                String[] due = new String[edges];
                Arrays.fill(due, "none");
                if (x > 0) {
                    due[y * (w - 1) + x - 1] = "1/6";
                }
                if (x < w - 1) {
                    due[y * (w - 1) + x] = "5/6";
                }
                if (y > 0) {
                    due[h * (w - 1) + (y - 1) * w + x] = "1/6";
                }
                if (y < h - 1) {
                    due[h * (w - 1) + y * w + x] = "5/6";
                }
                for (int edge = 0; edge < edges; edge++) {
                    due("edge " + edge + " at (" + x + ", " + y + ") of " + w + " by " + h, crossing(lines, edge), due[edge]);
                }
                lines.set(x, y, 0);
            }
        }
    }

    private static void edgesAtTheBorder() {
        HeightLines lines = of(4, 3);
        lines.row(0, 0, 1);
        due("the first edge of the first row, 0", crossing(lines, 0), "1/2");
        lines.height(5);
        due("the last edge of the first row, 2", crossing(lines, 2), "1/2");
        lines.row(0, 0, 0);
        lines.row(1, 3, -1);
        due("the first edge of the second row, 3", crossing(lines, 3), "1/2");
        lines.row(1, 0, 0);
        lines.row(2, 0, 1);
        due("the last edge to the right, 8", crossing(lines, 8), "1/2");
        due("the last edge upward, 16", crossing(lines, 16), "5/6");
        due("behind the last edge, 17", crossing(lines, 17), "none");
        lines.row(2, 0, 0);
        lines.set(0, 0, 3);
        due("the first edge upward, 9", crossing(lines, 9), "1/6");
        lines.set(0, 0, 0);
        lines.set(3, 0, 3);
        due("the last edge upward from the first row, 12", crossing(lines, 12), "1/6");
    }

    // Cells. Of 2 by 2 samples the bottom is edge 0, the top 1, the left 2, the right 3.

    private static HeightLines cell(int a, int b, int c, int d) {
        return of(2, 2, a, b, d, c);
    }

    private static void twoCrossed() {
        String[] due = {"", "0 2", "3 0", "3 2", "1 3", null, "1 0", "1 2", "2 1", "0 1", null, "3 1", "2 3", "0 3", "2 0", ""};
        for (int above = 0; above < 16; above++) {
            if (due[above] != null) {
                HeightLines lines = cell(above & 1, above >> 1 & 1, above >> 2 & 1, above >> 3 & 1);
                due("above of d c b a " + Integer.toBinaryString(above), made(lines), due[above]);
            }
        }
    }

    private static void dueFour(int twice, int a, int b, int c, int d, String want) {
        HeightLines lines = cell(a, b, c, d);
        due("height(" + twice + ")", lines.height(twice), true);
        due("a, b, c, d = " + a + ", " + b + ", " + c + ", " + d + " at twice " + twice, made(lines), want);
    }

    private static final String AC_TOGETHER = "0 3, 1 2";
    private static final String AC_CUT_OFF = "0 2, 1 3";
    private static final String BD_TOGETHER = "2 0, 3 1";
    private static final String BD_CUT_OFF = "2 1, 3 0";

    /** The same with the corners above at a and c, and at b and d; the middle is the same. */
    private static void dueBothWays(int twice, int high, int low, int otherHigh, int otherLow, boolean together) {
        dueFour(twice, high, low, otherHigh, otherLow, together ? AC_TOGETHER : AC_CUT_OFF);
        dueFour(twice, otherHigh, otherLow, high, low, together ? AC_TOGETHER : AC_CUT_OFF);
        dueFour(twice, low, high, otherLow, otherHigh, together ? BD_TOGETHER : BD_CUT_OFF);
        dueFour(twice, otherLow, otherHigh, low, high, together ? BD_TOGETHER : BD_CUT_OFF);
    }

    private static void middleAbove() {
        dueBothWays(1, 3, 0, 3, 0, true);
        // 2/3, the least above 1/2 that small samples come.
        dueBothWays(1, 2, 0, 1, 0, true);
        dueBothWays(-1, 1, -1, 0, -1, true);
        dueBothWays(999999, MOST, 0, MOST, 0, true);
        dueBothWays(-1000001, 0, -MOST, 0, -MOST, true);
        // 2 (a c - b d) and 2 height (a + c - b - d) differ by 1.
        dueBothWays(1, 998001, -999000, MOST, -998998, true);
        dueBothWays(-1, 998001, -999001, MOST, -999001, true);
        dueBothWays(999999, 998436, 857, 999849, 857, true);
        dueBothWays(-1999, 997002, -MOST, 999001, -MOST, true);
    }

    private static void middleNotAbove() {
        dueBothWays(1, 1, -9, 1, 0, false);
        // 1/3, the most below 1/2 that small samples come.
        dueBothWays(1, 1, 0, 1, -1, false);
        dueBothWays(-1, 0, -1, 0, -2, false);
        dueBothWays(1000001, MOST, 0, MOST, 0, false);
        dueBothWays(-999999, 0, -MOST, 0, -MOST, false);
        dueBothWays(1, 998001, -998999, MOST, -998999, false);
        dueBothWays(-1, 998000, -999000, 999999, -999000, false);
        dueBothWays(999999, 998435, 858, 999848, 858, false);
        dueBothWays(-1999, 997001, -999999, 999000, -999999, false);
    }

    private static void middleAtTheHeight() {
        dueBothWays(1, 1, 0, 1, 0, false);
        dueBothWays(-1, 0, -1, 0, -1, false);
        dueBothWays(1, 2, -1, 2, -1, false);
        dueBothWays(1, 5, 0, 1, -4, false);
        dueBothWays(1, MOST, 1 - MOST, MOST, 1 - MOST, false);
        dueBothWays(-1, MOST - 1, -MOST, MOST - 1, -MOST, false);
        dueBothWays(1999999, MOST, MOST - 1, MOST, MOST - 1, false);
        dueBothWays(-1999999, 1 - MOST, -MOST, 1 - MOST, -MOST, false);
    }

    // Chains. Of 3 by 3 samples the edges to the right are 0 1, 2 3, 4 5, those upward 6 7 8, 9 10 11.

    private static void dueOfNine(String told, String want, int... values) {
        due(told, made(of(3, 3, values)), want);
    }

    private static void beginAtTheBorder() {
        dueOfNine("above at the bottom", "1 7 0", 0, 1, 0, 0, 0, 0, 0, 0, 0);
        dueOfNine("above at the right", "11 3 8", 0, 0, 0, 0, 0, 1, 0, 0, 0);
        dueOfNine("above at the top", "4 10 5", 0, 0, 0, 0, 0, 0, 0, 1, 0);
        dueOfNine("above at the left", "6 2 9", 0, 0, 0, 1, 0, 0, 0, 0, 0);
        dueOfNine("below at the bottom", "0 7 1", 1, 0, 1, 1, 1, 1, 1, 1, 1);
        dueOfNine("below at the right", "8 3 11", 1, 1, 1, 1, 1, 0, 1, 1, 1);
        dueOfNine("below at the top", "5 10 4", 1, 1, 1, 1, 1, 1, 1, 0, 1);
        dueOfNine("below at the left", "9 2 6", 1, 1, 1, 0, 1, 1, 1, 1, 1);
        dueOfNine("above at the left half", "0 2 4", 1, 0, 0, 1, 0, 0, 1, 0, 0);
        dueOfNine("above at the right half", "4 2 0", 0, 1, 1, 0, 1, 1, 0, 1, 1);
        dueOfNine("above at the bottom half", "8 7 6", 1, 1, 1, 0, 0, 0, 0, 0, 0);
        dueOfNine("above at the top half", "9 10 11", 0, 0, 0, 0, 0, 0, 1, 1, 1);
    }

    private static void closedAtTheirLeast() {
        dueOfNine("the middle one above", "[2 7 3 10]", 0, 0, 0, 0, 1, 0, 0, 0, 0);
        dueOfNine("the middle one below", "[2 10 3 7]", 1, 1, 1, 1, 0, 1, 1, 1, 1);
        // Its lowest row is not its least edge's: the edges to the right have the lesser numbers.
        due("two beside one another", made(of(4, 3, 0, 0, 0, 0, 0, 1, 1, 0)), "[3 10 11 5 15 14]");
        due("two above one another", made(of(3, 4, 0, 0, 0, 0, 1, 0, 0, 1)), "[2 9 3 5 15 4]");
        due("the greatest field's last one inside", made(lastInside()), "[119 250 120 262]");
    }

    private static HeightLines lastInside() {
        HeightLines lines = of(12, 12);
        lines.set(10, 10, 1);
        return lines;
    }

    private static void openOnesFirst() {
        int[] both = {0, 0, 0, 0, 0, 5, 0, 0, 0, 0, 0, 0, 0, 0, 0, 5};
        due("an open one behind the closed one's least edge", made(of(4, 4, both)), "11 23, [3 13 4 17]");
        int[] low = {5, 0, 0, 0, 0, 0, 0, 0, 0, 0, 1, 0, 0, 0, 0, 0};
        due("an open one before the closed one's least edge", made(of(4, 4, low)), "0 12, [7 18 8 22]");
        int[] three = {5, 0, 0, 0, 0, 0, 0, 0, 0, 0, 1, 0, 0, 0, 0, 0, 0, 0, 0, 5};
        due("one on either side", made(of(4, 5, three)), "0 15, 14 30, [7 21 8 25]");
    }

    private static void byTheirFirstEdges() {
        // The chain of 8 and 1 has a lesser edge than that of 5 and 11, but it doesn't begin there.
        dueOfNine("four corners above", "0 6, 5 11, 8 1, 9 4", 1, 0, 1, 0, 0, 0, 1, 0, 1);
        dueOfNine("four corners below", "1 8, 4 9, 6 0, 11 5", 0, 1, 0, 1, 1, 1, 0, 1, 0);
        int[] two = {0, 0, 0, 0, 0, 0, 0, 1, 0, 0, 0, 1, 0, 0, 0, 0, 0, 0, 0, 0};
        due("two closed ones", made(of(5, 4, two)), "[5 18 6 23], [8 22 9 27]");
    }

    private static void eachEdgeOnce() {
        // One line goes twice through the cell between the two.
        due("two peaks together", made(of(4, 4, 0, 0, 0, 0, 0, 3, 0, 0, 0, 0, 3)), "[3 13 4 18 8 22 7 17]");
        due("two peaks apart", made(of(4, 4, 0, 0, 0, 0, 0, 1, 0, 0, 0, 0, 1)), "[3 13 4 17], [7 18 8 22]");
        for (int high = 1; high <= 2; high++) {
            HeightLines lines = of(12, 12);
            for (int k = 0; k < 144; k++) {
                lines.set(k % 12, k / 12, (k % 12 + k / 12) % 2 * high);
            }
            TreeSet<Integer> seen = new TreeSet<>();
            int edges = 0;
            int chains = lines.make();
            for (int chain = 0; chain < chains; chain++) {
                for (int i = 0; i < lines.size(chain); i++) {
                    seen.add(lines.edge(chain, i));
                    edges++;
                }
            }
            due("edges in chains, samples 0 and " + high, edges, 264);
            due("different edges in chains, samples 0 and " + high, seen.size(), 264);
            // Samples of 0 and 1 cut off those above, 0 and 2 those below: there are as many.
            due("chains, samples 0 and " + high, chains, 72);
        }
    }

    private static void narrowFields() {
        dueAllOpen("2 by 12, each second row above", of(2, 12), 2, 0, 1);
        dueAllOpen("12 by 2, each second column above", of(12, 2), 12, 1, 0);
        due("3 by 3 is the least that has a closed one", made(of(3, 3, 0, 0, 0, 0, 1)), "[2 7 3 10]");
    }

    private static void dueAllOpen(String told, HeightLines lines, int w, int byColumn, int byRow) {
        for (int k = 0; k < 24; k++) {
            lines.set(k % w, k / w, (k % w * byColumn + k / w * byRow) % 2);
        }
        due(told + ", make()", lines.make(), 11);
        for (int chain = 0; chain < 11; chain++) {
            due(told + ", size(" + chain + ")", lines.size(chain), 2);
            due(told + ", isClosed(" + chain + ")", lines.isClosed(chain), false);
            due(told + ", within(" + chain + ")", lines.within(chain), NONE);
        }
    }

    public static void main(String[] args) {
        test("'used for at most 512 calls'", TermsTest::manyCalls);
        test("'All memory is the class's own', objects beside one another", TermsTest::manyObjects);
        test("'A sample is ABOVE it or below'", TermsTest::aboveOrBelow);
        test("'EDGES: ..', all numbers", TermsTest::edgeNumbers);
        test("'EDGES: ..', at the field's border", TermsTest::edgesAtTheBorder);
        test("'a line whose left side is above: of two crossed ones these'", TermsTest::twoCrossed);
        test("'if it is, the samples above belong together'", TermsTest::middleAbove);
        test("'else each one above is cut off', the middle below", TermsTest::middleNotAbove);
        test("'else each one above is cut off', the middle at the height", TermsTest::middleAtTheHeight);
        test("'One that begins at an edge of the field's border'", TermsTest::beginAtTheBorder);
        test("'others are CLOSED and begin at their least edge'", TermsTest::closedAtTheirLeast);
        test("'those that aren't closed first'", TermsTest::openOnesFirst);
        test("'by their first edges'", TermsTest::byTheirFirstEdges);
        test("'each edge once'", TermsTest::eachEdgeOnce);
        test("'w and h from 2 to 12', chains of narrow fields", TermsTest::narrowFields);
        System.out.println(wrong == 0 ? "all answers are as due" : wrong + " answers are not as due");
        if (wrong != 0) {
            System.exit(1);
        }
    }
}
