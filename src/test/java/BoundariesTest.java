/**
 * For each sentence of the document that names a boundary case, a test of its own: just inside and
 * just outside each range, the least and the greatest int, no edges, one edge, every edge but one,
 * and every edge. Each test makes its own objects, so that none is asked more than 512 times.
 */
public final class BoundariesTest {
    private static final int LEAST = Integer.MIN_VALUE;
    private static final int GREATEST = Integer.MAX_VALUE;
    // After the first four come numbers that a shift, a mask or a narrower type would bring inside.
    private static final int[] NOT_VERTICES = {-1, 8, LEAST, GREATEST,
        -8, 15, 32, 39, -32, -25, 256, 263, 65536, 65543, LEAST + 7};
    private static final int[] NOT_SETS = {-1, 256, LEAST, GREATEST,
        -255, -256, 257, 511, 512, 65535, 65536, 65791, LEAST + 255};
    private static final int[] NOT_COUNTS = {-1, 3, LEAST, GREATEST,
        -2, -3, 4, 5, 6, 32, 256, 257, 258, 65536, LEAST + 1, LEAST + 2};

    private static int wrong = 0;

    public static void main(String[] args) {
        terms();
        newObject();
        join();
        neighbours();
        edges();
        covers();
        least();
        leastCover();
        leastWith();
        always();
        never();
        halves();
        whole();
        bare();
        canHave();
        matching();
        evenly();
        tightCovers();
        System.out.println(wrong == 0 ? "all answers are as due" : wrong + " answers are not as due");
        if (wrong != 0) {
            System.exit(1);
        }
    }

    private static void terms() {
        everyPairMayBeJoined();
        aCoverHasOneEndOrBoth();
        aCoverHasAnEndOfEveryEdge();
        theEndsOfAnEdgeHaveTwoHalvesTogether();
    }

    private static void newObject() {
        aNewObjectHasNoEdges();
        aNewObjectHasNoEdgesAfterAnotherGotThem();
    }

    private static void join() {
        joinTakesTheEndsOfTheRange();
        joinRefusesAVertexWithItself();
        joinRefusesAWrongFirst();
        joinRefusesAWrongSecond();
        joinRefusesTwoWrongOnes();
    }

    private static void neighbours() {
        neighboursInside();
        neighboursOutside();
    }

    private static void covers() {
        coversOfNoEdges();
        coversOfEveryEdge();
        coversOutside();
    }

    private static void leastWith() {
        leastWithOfNoEdges();
        leastWithOfEveryEdge();
        leastWithInAndOutAtOnce();
        leastWithNeitherEndOfAnEdge();
        leastWithWrongIn();
        leastWithWrongOut();
        leastWithTwoWrongSets();
    }

    private static void canHave() {
        canHaveOfNoEdges();
        canHaveOfEveryEdge();
        canHaveOfOneEdge();
        canHaveOfEveryEdgeButOne();
        canHaveOfAWrongVertex();
        canHaveOfAWrongCount();
        canHaveOfBothWrong();
    }

    // Terms

    private static void everyPairMayBeJoined() {
        for (int a = 0; a < 8; a++) {
            for (int b = 0; b < 8; b++) {
                if (a != b) {
                    CoverKernel x = new CoverKernel();
                    due("terms: join(" + a + ", " + b + ", true)", x.join(a, b, true), true);
                    due("terms: then neighbours(" + a + ")", x.neighbours(a), 1 << b);
                    due("terms: then neighbours(" + b + ")", x.neighbours(b), 1 << a);
                    due("terms: then edges()", x.edges(), 1);
                }
            }
        }
    }

    private static void aCoverHasOneEndOrBoth() {
        for (int a = 0; a < 8; a++) {
            for (int b = 0; b < a; b++) {
                CoverKernel x = oneEdge(a, b);
                for (int set = 0; set < 256; set++) {
                    due("terms: one edge " + a + " " + b + ", covers(" + set + ")",
                            x.covers(set), (set & pair(a, b)) != 0);
                }
            }
        }
    }

    private static void aCoverHasAnEndOfEveryEdge() {
        CoverKernel x = new CoverKernel();
        x.join(0, 1, true);
        x.join(6, 7, true);
        due("terms: an end of the first edge alone", x.covers(1), false);
        due("terms: both ends of the first edge alone", x.covers(3), false);
        due("terms: an end of the last edge alone", x.covers(128), false);
        due("terms: both ends of the last edge alone", x.covers(192), false);
        due("terms: the vertices of no edge", x.covers(60), false);
        due("terms: an end of each", x.covers(129), true);
    }

    private static void theEndsOfAnEdgeHaveTwoHalvesTogether() {
        CoverKernel x = oneEdge(0, 7);
        due("terms: the cost is 2, not 1", x.halves(), 2);
        due("terms: 0 and 2 halves", x.canHave(0, 0), true);
        due("terms: 1 and 1 halves", x.canHave(0, 1), true);
        due("terms: 2 and 0 halves", x.canHave(0, 2), true);
        due("terms: a vertex without an edge needs none", x.canHave(3, 1), false);
    }

    // Promise 1: "No edges."

    private static void aNewObjectHasNoEdges() {
        hasNoEdges(new CoverKernel());
    }

    private static void aNewObjectHasNoEdgesAfterAnotherGotThem() {
        CoverKernel other = everyEdge();
        other.matching();
        CoverKernel x = new CoverKernel();
        other.join(0, 1, true);
        hasNoEdges(x);
        due("1: the other one keeps its edges", other.edges(), 28);
    }

    private static void hasNoEdges(CoverKernel x) {
        due("1: new, edges()", x.edges(), 0);
        for (int v = 0; v < 8; v++) {
            due("1: new, neighbours(" + v + ")", x.neighbours(v), 0);
        }
        due("1: new, covers(0)", x.covers(0), true);
        due("1: new, least()", x.least(), 0);
        due("1: new, leastCover()", x.leastCover(), 0);
        due("1: new, leastWith(0, 255)", x.leastWith(0, 255), 0);
        due("1: new, always()", x.always(), 0);
        due("1: new, never()", x.never(), 255);
        due("1: new, halves()", x.halves(), 0);
        due("1: new, whole()", x.whole(), 0);
        due("1: new, bare()", x.bare(), 255);
        due("1: new, canHave(0, 0)", x.canHave(0, 0), true);
        due("1: new, matching()", x.matching(), 0);
        due("1: new, evenly()", x.evenly(), false);
        due("1: new, tightCovers()", x.tightCovers(), 1);
    }

    // Promise 2: "false, changing nothing, when a = b or one is not 0 .. 7."
    // RefusedCallsTest asks for all the answers after each refused call.

    private static void joinTakesTheEndsOfTheRange() {
        CoverKernel x = new CoverKernel();
        due("2: join(0, 7, true)", x.join(0, 7, true), true);
        due("2: join(7, 0, true), joined already", x.join(7, 0, true), true);
        due("2: one edge", x.edges(), 1);
        due("2: join(7, 6, true)", x.join(7, 6, true), true);
        due("2: join(1, 0, true)", x.join(1, 0, true), true);
        due("2: three edges", x.edges(), 3);
        due("2: join(7, 0, false)", x.join(7, 0, false), true);
        due("2: join(0, 7, false), parted already", x.join(0, 7, false), true);
        due("2: two edges", x.edges(), 2);
        due("2: neighbours(0)", x.neighbours(0), 2);
        due("2: neighbours(7)", x.neighbours(7), 64);
    }

    private static void joinRefusesAVertexWithItself() {
        for (int v = 0; v < 8; v++) {
            joinRefuses(v, v);
        }
    }

    private static void joinRefusesAWrongFirst() {
        for (int a : NOT_VERTICES) {
            for (int b = 0; b < 8; b++) {
                joinRefuses(a, b);
            }
        }
    }

    private static void joinRefusesAWrongSecond() {
        for (int a = 0; a < 8; a++) {
            for (int b : NOT_VERTICES) {
                joinRefuses(a, b);
            }
        }
    }

    private static void joinRefusesTwoWrongOnes() {
        for (int a : NOT_VERTICES) {
            for (int b : NOT_VERTICES) {
                joinRefuses(a, b);
            }
        }
    }

    private static void joinRefuses(int a, int b) {
        String call = "2: join(" + a + ", " + b + ", ";
        CoverKernel none = new CoverKernel();
        due(call + "true), no edges", none.join(a, b, true), false);
        due(call + "false), no edges", none.join(a, b, false), false);
        due(call + "..), no edges are left", none.edges(), 0);
        CoverKernel full = everyEdge();
        due(call + "true), every edge", full.join(a, b, true), false);
        due(call + "false), every edge", full.join(a, b, false), false);
        due(call + "..), every edge is left", full.edges(), 28);
        for (int v = 0; v < 8; v++) {
            due(call + "..), then neighbours(" + v + ") of none", none.neighbours(v), 0);
            due(call + "..), then neighbours(" + v + ") of all", full.neighbours(v), 255 - (1 << v));
        }
    }

    // Promise 3: "0 when v is not 0 .. 7."

    private static void neighboursInside() {
        due("3: one edge, neighbours(0)", oneEdge(0, 7).neighbours(0), 128);
        due("3: one edge, neighbours(7)", oneEdge(0, 7).neighbours(7), 1);
        due("3: one edge, neighbours(1)", oneEdge(0, 7).neighbours(1), 0);
        due("3: one edge, neighbours(6)", oneEdge(0, 7).neighbours(6), 0);
        due("3: every edge, neighbours(0)", everyEdge().neighbours(0), 254);
        due("3: every edge, neighbours(7)", everyEdge().neighbours(7), 127);
    }

    private static void neighboursOutside() {
        for (int v : NOT_VERTICES) {
            due("3: no edges, neighbours(" + v + ")", new CoverKernel().neighbours(v), 0);
            due("3: every edge, neighbours(" + v + ")", everyEdge().neighbours(v), 0);
        }
    }

    // Promise 4: from no edges to every edge, and back

    private static void edges() {
        CoverKernel x = new CoverKernel();
        due("4: no edges", x.edges(), 0);
        int count = 0;
        for (int a = 0; a < 8; a++) {
            for (int b = 0; b < a; b++) {
                x.join(a, b, true);
                count++;
                due("4: edges joined", x.edges(), count);
            }
        }
        due("4: every edge", x.edges(), 28);
        for (int a = 0; a < 8; a++) {
            for (int b = 0; b < a; b++) {
                x.join(b, a, false);
                count--;
                due("4: edges left", x.edges(), count);
            }
        }
        due("4: no edges again", x.edges(), 0);
    }

    // Promise 5: "false when it is not 0 .. 255."

    private static void coversOfNoEdges() {
        CoverKernel x = new CoverKernel();
        for (int set = 0; set < 256; set++) {
            due("5: no edges, covers(" + set + ")", x.covers(set), true);
        }
    }

    private static void coversOfEveryEdge() {
        CoverKernel x = everyEdge();
        for (int set = 0; set < 256; set++) {
            due("5: every edge, covers(" + set + ")", x.covers(set), Integer.bitCount(set) >= 7);
        }
    }

    private static void coversOutside() {
        for (int set : NOT_SETS) {
            due("5: no edges, covers(" + set + ")", new CoverKernel().covers(set), false);
            due("5: one edge, covers(" + set + ")", oneEdge(0, 7).covers(set), false);
            due("5: every edge, covers(" + set + ")", everyEdge().covers(set), false);
        }
    }

    // Promises 6 and 7: no edges, one edge, every edge but one, every edge

    private static void least() {
        due("6: no edges", new CoverKernel().least(), 0);
        due("6: every edge", everyEdge().least(), 7);
        for (int a = 0; a < 8; a++) {
            for (int b = 0; b < a; b++) {
                due("6: one edge " + a + " " + b, oneEdge(a, b).least(), 1);
                due("6: every edge but " + a + " " + b, everyEdgeBut(a, b).least(), 6);
            }
        }
    }

    private static void leastCover() {
        due("7: no edges", new CoverKernel().leastCover(), 0);
        due("7: every edge", everyEdge().leastCover(), 127);
        for (int a = 0; a < 8; a++) {
            for (int b = 0; b < a; b++) {
                due("7: one edge " + a + " " + b, oneEdge(a, b).leastCover(), 1 << b);
                due("7: every edge but " + a + " " + b, everyEdgeBut(a, b).leastCover(), 255 - pair(a, b));
            }
        }
    }

    // Promise 8: "NONE when there is none, or in or out is not 0 .. 255."

    private static void leastWithOfNoEdges() {
        for (int in = 0; in < 256; in++) {
            CoverKernel x = new CoverKernel();
            for (int out = 0; out < 256; out++) {
                int want = (in & out) != 0 ? -1 : Integer.bitCount(in);
                due("8: no edges, leastWith(" + in + ", " + out + ")", x.leastWith(in, out), want);
            }
        }
    }

    private static void leastWithOfEveryEdge() {
        for (int in = 0; in < 256; in++) {
            CoverKernel x = everyEdge();
            for (int out = 0; out < 256; out++) {
                boolean none = (in & out) != 0 || Integer.bitCount(out) > 1;
                int want = none ? -1 : in == 255 ? 8 : 7;
                due("8: every edge, leastWith(" + in + ", " + out + ")", x.leastWith(in, out), want);
            }
        }
    }

    private static void leastWithInAndOutAtOnce() {
        for (int v = 0; v < 8; v++) {
            int set = 1 << v;
            due("8: no edges, " + v + " in and out", new CoverKernel().leastWith(set, set), CoverKernel.NONE);
            due("8: no edges, " + v + " out and all in", new CoverKernel().leastWith(255, set), CoverKernel.NONE);
            due("8: no edges, " + v + " in and all out", new CoverKernel().leastWith(set, 255), CoverKernel.NONE);
            due("8: no edges, " + v + " in alone", new CoverKernel().leastWith(set, 255 - set), 1);
            due("8: no edges, " + v + " out alone", new CoverKernel().leastWith(255 - set, set), 7);
        }
        due("8: no edges, all in and out", new CoverKernel().leastWith(255, 255), CoverKernel.NONE);
    }

    private static void leastWithNeitherEndOfAnEdge() {
        for (int a = 0; a < 8; a++) {
            for (int b = 0; b < a; b++) {
                CoverKernel x = oneEdge(a, b);
                String name = "8: one edge " + a + " " + b + ", ";
                due(name + "neither end", x.leastWith(0, pair(a, b)), CoverKernel.NONE);
                due(name + "neither end, all others", x.leastWith(255 - pair(a, b), pair(a, b)), CoverKernel.NONE);
                due(name + "nothing", x.leastWith(0, 255), CoverKernel.NONE);
                due(name + "one end out", x.leastWith(0, 1 << a), 1);
                due(name + "all but one end out", x.leastWith(0, 255 - (1 << a)), 1);
                due(name + "both ends in", x.leastWith(pair(a, b), 0), 2);
                due(name + "everything in", x.leastWith(255, 0), 8);
            }
        }
    }

    private static void leastWithWrongIn() {
        for (int in : NOT_SETS) {
            for (int out : new int[] {0, 1, 128, 255}) {
                leastWithIsNone(in, out);
            }
        }
    }

    private static void leastWithWrongOut() {
        for (int in : new int[] {0, 1, 128, 255}) {
            for (int out : NOT_SETS) {
                leastWithIsNone(in, out);
            }
        }
    }

    private static void leastWithTwoWrongSets() {
        for (int in : NOT_SETS) {
            for (int out : NOT_SETS) {
                leastWithIsNone(in, out);
            }
        }
    }

    private static void leastWithIsNone(int in, int out) {
        String call = "leastWith(" + in + ", " + out + ")";
        due("8: no edges, " + call, new CoverKernel().leastWith(in, out), CoverKernel.NONE);
        due("8: one edge, " + call, oneEdge(3, 4).leastWith(in, out), CoverKernel.NONE);
        due("8: every edge, " + call, everyEdge().leastWith(in, out), CoverKernel.NONE);
    }

    // Promises 9 to 13: no edges, one edge, every edge but one, every edge

    private static void always() {
        due("9: no edges", new CoverKernel().always(), 0);
        due("9: every edge", everyEdge().always(), 0);
        for (int a = 0; a < 8; a++) {
            for (int b = 0; b < a; b++) {
                due("9: one edge " + a + " " + b, oneEdge(a, b).always(), 0);
                due("9: every edge but " + a + " " + b, everyEdgeBut(a, b).always(), 255 - pair(a, b));
            }
        }
    }

    private static void never() {
        due("10: no edges", new CoverKernel().never(), 255);
        due("10: every edge", everyEdge().never(), 0);
        for (int a = 0; a < 8; a++) {
            for (int b = 0; b < a; b++) {
                due("10: one edge " + a + " " + b, oneEdge(a, b).never(), 255 - pair(a, b));
                due("10: every edge but " + a + " " + b, everyEdgeBut(a, b).never(), pair(a, b));
            }
        }
    }

    private static void halves() {
        due("11: no edges", new CoverKernel().halves(), 0);
        due("11: every edge", everyEdge().halves(), 8);
        for (int a = 0; a < 8; a++) {
            for (int b = 0; b < a; b++) {
                due("11: one edge " + a + " " + b, oneEdge(a, b).halves(), 2);
                due("11: every edge but " + a + " " + b, everyEdgeBut(a, b).halves(), 8);
            }
        }
    }

    private static void whole() {
        due("12: no edges", new CoverKernel().whole(), 0);
        due("12: every edge", everyEdge().whole(), 0);
        for (int a = 0; a < 8; a++) {
            due("12: every edge of " + a, everyEdgeOf(a).whole(), 1 << a);
            for (int b = 0; b < a; b++) {
                due("12: one edge " + a + " " + b, oneEdge(a, b).whole(), 0);
                due("12: every edge but " + a + " " + b, everyEdgeBut(a, b).whole(), 0);
            }
        }
    }

    private static void bare() {
        due("13: no edges", new CoverKernel().bare(), 255);
        due("13: every edge", everyEdge().bare(), 0);
        for (int a = 0; a < 8; a++) {
            due("13: every edge of " + a, everyEdgeOf(a).bare(), 255 - (1 << a));
            for (int b = 0; b < a; b++) {
                due("13: one edge " + a + " " + b, oneEdge(a, b).bare(), 255 - pair(a, b));
                due("13: every edge but " + a + " " + b, everyEdgeBut(a, b).bare(), 0);
            }
        }
    }

    // Promise 14: "false when v is not 0 .. 7 or n is not 0 .. 2."

    private static void canHaveOfNoEdges() {
        for (int v = 0; v < 8; v++) {
            canHaveIs("no edges", new CoverKernel(), v, true, false, false);
        }
    }

    private static void canHaveOfEveryEdge() {
        for (int v = 0; v < 8; v++) {
            canHaveIs("every edge", everyEdge(), v, false, true, false);
        }
    }

    private static void canHaveOfOneEdge() {
        for (int v = 0; v < 8; v++) {
            boolean end = v == 0 || v == 7;
            canHaveIs("one edge", oneEdge(0, 7), v, true, end, end);
        }
    }

    private static void canHaveOfEveryEdgeButOne() {
        for (int v = 0; v < 8; v++) {
            canHaveIs("every edge but one", everyEdgeBut(0, 7), v, false, true, false);
        }
    }

    private static void canHaveOfAWrongVertex() {
        for (int v : NOT_VERTICES) {
            for (int n = 0; n <= 2; n++) {
                canHaveIsFalse(v, n);
            }
        }
    }

    private static void canHaveOfAWrongCount() {
        for (int v = 0; v < 8; v++) {
            for (int n : NOT_COUNTS) {
                canHaveIsFalse(v, n);
            }
        }
    }

    private static void canHaveOfBothWrong() {
        for (int v : NOT_VERTICES) {
            for (int n : NOT_COUNTS) {
                canHaveIsFalse(v, n);
            }
        }
    }

    private static void canHaveIs(String name, CoverKernel x, int v, boolean none, boolean one, boolean two) {
        due("14: " + name + ", canHave(" + v + ", 0)", x.canHave(v, 0), none);
        due("14: " + name + ", canHave(" + v + ", 1)", x.canHave(v, 1), one);
        due("14: " + name + ", canHave(" + v + ", 2)", x.canHave(v, 2), two);
    }

    /** With four edges apart, each vertex can have 0, 1 or 2 halves: only the range refuses. */
    private static void canHaveIsFalse(int v, int n) {
        String call = "canHave(" + v + ", " + n + ")";
        due("14: no edges, " + call, new CoverKernel().canHave(v, n), false);
        due("14: four edges apart, " + call, fourEdgesApart().canHave(v, n), false);
        due("14: every edge, " + call, everyEdge().canHave(v, n), false);
    }

    // Promises 15 to 17: no edges, one edge, every edge but one, every edge

    private static void matching() {
        due("15: no edges", new CoverKernel().matching(), 0);
        due("15: four edges apart", fourEdgesApart().matching(), 4);
        due("15: every edge", everyEdge().matching(), 4);
        for (int a = 0; a < 8; a++) {
            due("15: every edge of " + a, everyEdgeOf(a).matching(), 1);
            for (int b = 0; b < a; b++) {
                due("15: one edge " + a + " " + b, oneEdge(a, b).matching(), 1);
                due("15: every edge but " + a + " " + b, everyEdgeBut(a, b).matching(), 4);
            }
        }
    }

    private static void evenly() {
        due("16: no edges", new CoverKernel().evenly(), false);
        due("16: four edges apart", fourEdgesApart().evenly(), true);
        due("16: every edge", everyEdge().evenly(), true);
        for (int a = 0; a < 8; a++) {
            due("16: every edge but those of " + a, everyEdgeButThoseOf(a).evenly(), false);
            for (int b = 0; b < a; b++) {
                due("16: one edge " + a + " " + b, oneEdge(a, b).evenly(), false);
                due("16: every edge but " + a + " " + b, everyEdgeBut(a, b).evenly(), true);
            }
        }
    }

    private static void tightCovers() {
        // The empty set is a cover then, and has no proper subset.
        due("17: no edges", new CoverKernel().tightCovers(), 1);
        due("17: four edges apart", fourEdgesApart().tightCovers(), 16);
        due("17: every edge", everyEdge().tightCovers(), 8);
        for (int a = 0; a < 8; a++) {
            due("17: every edge of " + a, everyEdgeOf(a).tightCovers(), 2);
            for (int b = 0; b < a; b++) {
                due("17: one edge " + a + " " + b, oneEdge(a, b).tightCovers(), 2);
                due("17: every edge but " + a + " " + b, everyEdgeBut(a, b).tightCovers(), 7);
            }
        }
    }

    // Graphs

    private static CoverKernel oneEdge(int a, int b) {
        CoverKernel x = new CoverKernel();
        x.join(a, b, true);
        return x;
    }

    private static CoverKernel everyEdge() {
        CoverKernel x = new CoverKernel();
        for (int a = 0; a < 8; a++) {
            for (int b = 0; b < a; b++) {
                x.join(a, b, true);
            }
        }
        return x;
    }

    private static CoverKernel everyEdgeBut(int a, int b) {
        CoverKernel x = everyEdge();
        x.join(a, b, false);
        return x;
    }

    private static CoverKernel everyEdgeOf(int v) {
        CoverKernel x = new CoverKernel();
        for (int w = 0; w < 8; w++) {
            if (w != v) {
                x.join(v, w, true);
            }
        }
        return x;
    }

    private static CoverKernel everyEdgeButThoseOf(int v) {
        CoverKernel x = everyEdge();
        for (int w = 0; w < 8; w++) {
            if (w != v) {
                x.join(v, w, false);
            }
        }
        return x;
    }

    private static CoverKernel fourEdgesApart() {
        CoverKernel x = new CoverKernel();
        for (int v = 0; v < 4; v++) {
            x.join(v, v + 4, true);
        }
        return x;
    }

    private static int pair(int a, int b) {
        return 1 << a | 1 << b;
    }

    private static void due(String call, boolean got, boolean want) {
        due(call, got ? 1 : 0, want ? 1 : 0);
    }

    private static void due(String call, int got, int want) {
        if (got != want) {
            wrong++;
            System.out.println(call + " answered " + got + ", due is " + want);
        }
    }
}
