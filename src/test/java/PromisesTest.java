/** For each promise, answers worked out by hand: ordinary inputs, edges and wrong inputs. */
public final class PromisesTest {
    private static final int[] NOT_VERTICES = {-1, 8, 9, 31, 32, 33, 40, -8, -32, 255, 256,
        Integer.MIN_VALUE, Integer.MAX_VALUE};
    private static final int[] NOT_SETS = {-1, 256, 257, 511, 512, -256, 65535, Integer.MIN_VALUE,
        Integer.MIN_VALUE + 255, Integer.MAX_VALUE};

    private static int wrong = 0;

    public static void main(String[] args) {
        newObject();
        join();
        joinRefuses();
        neighbours();
        edges();
        covers();
        least();
        leastCover();
        leastWith();
        alwaysAndNever();
        halves();
        wholeAndBare();
        canHave();
        matching();
        evenly();
        tightCovers();
        objectsStandAlone();
        longUse();
        System.out.println(wrong == 0 ? "all answers are as due" : wrong + " answers are not as due");
        if (wrong != 0) {
            System.exit(1);
        }
    }

    private static void newObject() {
        CoverKernel x = new CoverKernel();
        for (int v = 0; v < 8; v++) {
            due("1: neighbours of " + v + " in a new object", x.neighbours(v), 0);
        }
        due("1: edges of a new object", x.edges(), 0);
        due("1: covers(0) of a new object", x.covers(0), true);
    }

    private static void join() {
        CoverKernel x = new CoverKernel();
        due("2: join", x.join(0, 7, true), true);
        due("2: joined, one end", x.neighbours(0), 128);
        due("2: joined, other end", x.neighbours(7), 1);
        due("2: join again", x.join(0, 7, true), true);
        due("2: join again, turned round", x.join(7, 0, true), true);
        due("2: joined once", x.edges(), 1);
        due("2: join one more", x.join(7, 3, true), true);
        due("2: part, turned round", x.join(7, 0, false), true);
        due("2: parted, one end", x.neighbours(0), 0);
        due("2: parted, other end keeps its other edge", x.neighbours(7), 8);
        due("2: part again", x.join(7, 0, false), true);
        due("2: part what was never joined", x.join(1, 2, false), true);
        due("2: one edge is left", x.edges(), 1);
        due("2: join anew", x.join(0, 7, true), true);
        due("2: joined anew", x.neighbours(7), 9);
    }

    private static void joinRefuses() {
        CoverKernel empty = new CoverKernel();
        CoverKernel full = complete(8);
        for (int v = 0; v < 8; v++) {
            refused(empty, full, v, v);
            for (int other : NOT_VERTICES) {
                refused(empty, full, v, other);
                refused(empty, full, other, v);
            }
        }
        for (int a : NOT_VERTICES) {
            for (int b : NOT_VERTICES) {
                refused(empty, full, a, b);
            }
        }
        for (int v = 0; v < 8; v++) {
            due("2: refused joins leave " + v + " alone", empty.neighbours(v), 0);
            due("2: refused partings leave " + v + " joined", full.neighbours(v), 255 & ~(1 << v));
        }
    }

    private static void refused(CoverKernel empty, CoverKernel full, int a, int b) {
        due("2: join(" + a + ", " + b + ", true)", empty.join(a, b, true), false);
        due("2: join(" + a + ", " + b + ", false)", full.join(a, b, false), false);
    }

    private static void neighbours() {
        CoverKernel x = graph(0, 1, 0, 2, 5, 7);
        int[] want = {6, 1, 1, 0, 0, 128, 0, 32};
        for (int v = 0; v < 8; v++) {
            due("3: neighbours(" + v + ")", x.neighbours(v), want[v]);
        }
        CoverKernel full = complete(8);
        for (int v : NOT_VERTICES) {
            due("3: neighbours(" + v + ")", full.neighbours(v), 0);
        }
    }

    private static void edges() {
        due("4: no edges", graph().edges(), 0);
        due("4: three edges", graph(0, 1, 6, 7, 7, 0).edges(), 3);
        due("4: the same edge thrice", graph(3, 4, 4, 3, 3, 4).edges(), 1);
        due("4: all edges", complete(8).edges(), 28);
    }

    private static void covers() {
        CoverKernel x = graph(0, 1, 1, 2, 6, 7);
        due("5: covers(66)", x.covers(66), true);
        due("5: covers(130)", x.covers(130), true);
        due("5: covers(69)", x.covers(69), true);
        due("5: covers(255)", x.covers(255), true);
        due("5: covers(0)", x.covers(0), false);
        due("5: covers(2)", x.covers(2), false);
        due("5: covers(65)", x.covers(65), false);
        due("5: covers(60)", x.covers(60), false);
        due("5: covers(192)", x.covers(192), false);
        due("5: no edges, covers(0)", graph().covers(0), true);
        due("5: no edges, covers(255)", graph().covers(255), true);
        for (int set : NOT_SETS) {
            due("5: covers(" + set + ")", x.covers(set), false);
            due("5: no edges, covers(" + set + ")", graph().covers(set), false);
        }
    }

    private static void least() {
        due("6: no edges", graph().least(), 0);
        due("6: one edge", graph(2, 6).least(), 1);
        due("6: star", star(7).least(), 1);
        due("6: triangle", complete(3).least(), 2);
        due("6: ring of 5", ring(5).least(), 3);
        due("6: ring of 7", ring(7).least(), 4);
        due("6: ring of 8", ring(8).least(), 4);
        due("6: all edges", complete(8).least(), 7);
        CoverKernel x = ring(8);
        x.join(0, 7, false);
        x.join(3, 4, false);
        due("6: two paths of 4 after partings", x.least(), 4);
        x.join(1, 2, false);
        x.join(2, 3, false);
        due("6: less after more partings", x.least(), 3);
    }

    private static void leastCover() {
        due("7: no edges", graph().leastCover(), 0);
        due("7: one edge", graph(7, 4).leastCover(), 16);
        due("7: star at 7", star(7).leastCover(), 128);
        due("7: triangle", complete(3).leastCover(), 3);
        due("7: ring of 8", ring(8).leastCover(), 85);
        due("7: ring of 5", ring(5).leastCover(), 11);
        due("7: all edges", complete(8).leastCover(), 127);
        // {0, 1, 2} is the smaller number, but {7} has fewer vertices.
        due("7: fewest vertices come first", graph(7, 0, 7, 1, 7, 2).leastCover(), 128);
    }

    private static void leastWith() {
        CoverKernel x = star(0);
        due("8: star", x.leastWith(0, 0), 1);
        due("8: star with its middle", x.leastWith(1, 0), 1);
        due("8: star with a leaf", x.leastWith(2, 0), 2);
        due("8: star with two leaves", x.leastWith(130, 0), 3);
        due("8: star without its middle", x.leastWith(0, 1), 7);
        due("8: star without a leaf", x.leastWith(0, 2), 1);
        due("8: star without the leaves", x.leastWith(0, 254), 1);
        due("8: star with the leaves alone", x.leastWith(254, 1), 7);
        due("8: star without middle and leaf", x.leastWith(0, 3), -1);
        due("8: star with a leaf, without its middle and a leaf", x.leastWith(4, 3), -1);
        due("8: star with all", x.leastWith(255, 0), 8);
        due("8: star without all", x.leastWith(0, 255), -1);
        due("8: in and out at once", x.leastWith(9, 8), -1);
        CoverKernel none = graph();
        due("8: no edges", none.leastWith(0, 0), 0);
        due("8: no edges, without all", none.leastWith(0, 255), 0);
        due("8: no edges, with all", none.leastWith(255, 0), 8);
        due("8: no edges, with some", none.leastWith(129, 126), 2);
        due("8: no edges, in and out at once", none.leastWith(128, 128), -1);
        for (int set : NOT_SETS) {
            due("8: leastWith(" + set + ", 0)", none.leastWith(set, 0), -1);
            due("8: leastWith(0, " + set + ")", none.leastWith(0, set), -1);
            due("8: leastWith(" + set + ", " + set + ")", none.leastWith(set, set), -1);
        }
    }

    private static void alwaysAndNever() {
        alwaysNever("no edges", graph(), 0, 255);
        alwaysNever("star at 5", star(5), 32, 223);
        alwaysNever("one edge", graph(0, 1), 0, 252);
        alwaysNever("path of 3", graph(0, 1, 1, 2), 2, 253);
        alwaysNever("path of 4", graph(0, 1, 1, 2, 2, 3), 0, 240);
        alwaysNever("path of 5", graph(0, 1, 1, 2, 2, 3, 3, 4), 10, 245);
        alwaysNever("triangle", complete(3), 0, 248);
        alwaysNever("triangle with a tail", graph(0, 1, 1, 2, 0, 2, 2, 3), 4, 248);
        alwaysNever("all edges", complete(8), 0, 0);
        // Without the middle, all 5 of the rim are needed; with it, 3 of them.
        alwaysNever("wheel", graph(0, 1, 0, 2, 0, 3, 0, 4, 0, 5, 1, 2, 2, 3, 3, 4, 4, 5, 5, 1), 1, 192);
    }

    private static void alwaysNever(String name, CoverKernel x, int always, int never) {
        due("9: " + name, x.always(), always);
        due("10: " + name, x.never(), never);
    }

    private static void halves() {
        due("11: no edges", graph().halves(), 0);
        due("11: one edge", graph(2, 6).halves(), 2);
        due("11: star", star(7).halves(), 2);
        due("11: triangle", complete(3).halves(), 3);
        due("11: ring of 5", ring(5).halves(), 5);
        due("11: ring of 6", ring(6).halves(), 6);
        due("11: path of 5", graph(0, 1, 1, 2, 2, 3, 3, 4).halves(), 4);
        due("11: triangle and star", graph(0, 1, 1, 2, 0, 2, 3, 4, 3, 5, 3, 6).halves(), 5);
        due("11: all edges", complete(8).halves(), 8);
    }

    private static void wholeAndBare() {
        wholeBare("no edges", graph(), 0, 255);
        wholeBare("star at 5", star(5), 32, 223);
        wholeBare("one edge", graph(0, 1), 0, 252);
        wholeBare("triangle", complete(3), 0, 248);
        wholeBare("path of 5", graph(0, 1, 1, 2, 2, 3, 3, 4), 10, 245);
        // Vertex 2 and the tail's end may have 2 halves and 0, or 1 each.
        wholeBare("triangle with a tail", graph(0, 1, 1, 2, 0, 2, 2, 3), 0, 240);
        wholeBare("triangle with two tails at 2", graph(0, 1, 1, 2, 0, 2, 2, 3, 2, 4), 4, 248);
        wholeBare("triangle and star", graph(0, 1, 1, 2, 0, 2, 3, 4, 3, 5, 3, 6), 8, 240);
        wholeBare("all edges", complete(8), 0, 0);
    }

    private static void wholeBare(String name, CoverKernel x, int whole, int bare) {
        due("12: " + name, x.whole(), whole);
        due("13: " + name, x.bare(), bare);
    }

    private static void canHave() {
        for (int v = 0; v < 8; v++) {
            canHaveOf("no edges", graph(), v, true, false, false);
            canHaveOf("all edges", complete(8), v, false, true, false);
            canHaveOf("ring of 8", ring(8), v, true, true, true);
            canHaveOf("star at 6", star(6), v, v != 6, false, v == 6);
        }
        // The best ones give vertices 0 .. 3 the halves 1 1 1 1, 1 1 2 0, 0 2 2 0 or 2 0 2 0.
        CoverKernel tail = graph(0, 1, 1, 2, 0, 2, 2, 3);
        canHaveOf("triangle with a tail", tail, 0, true, true, true);
        canHaveOf("triangle with a tail", tail, 2, false, true, true);
        canHaveOf("triangle with a tail", tail, 3, true, true, false);
        canHaveOf("triangle with a tail", tail, 4, true, false, false);
        for (int n = -1; n <= 3; n++) {
            for (int v : NOT_VERTICES) {
                due("14: canHave(" + v + ", " + n + ")", ring(8).canHave(v, n), false);
                due("14: no edges, canHave(" + v + ", " + n + ")", graph().canHave(v, n), false);
            }
        }
        for (int n : new int[] {-1, 3, 4, -2, Integer.MIN_VALUE, Integer.MAX_VALUE}) {
            for (int v = -1; v <= 8; v++) {
                due("14: canHave(" + v + ", " + n + ")", ring(8).canHave(v, n), false);
            }
        }
    }

    private static void canHaveOf(String name, CoverKernel x, int v, boolean none, boolean one, boolean two) {
        due("14: " + name + ", canHave(" + v + ", 0)", x.canHave(v, 0), none);
        due("14: " + name + ", canHave(" + v + ", 1)", x.canHave(v, 1), one);
        due("14: " + name + ", canHave(" + v + ", 2)", x.canHave(v, 2), two);
    }

    private static void matching() {
        due("15: no edges", graph().matching(), 0);
        due("15: one edge", graph(7, 0).matching(), 1);
        due("15: star at 0", star(0).matching(), 1);
        due("15: star at 7", star(7).matching(), 1);
        due("15: triangle", complete(3).matching(), 1);
        due("15: ring of 7", ring(7).matching(), 3);
        due("15: ring of 8", ring(8).matching(), 4);
        due("15: all edges", complete(8).matching(), 4);
        // Taking the edge of 1 and 2 first would leave nothing else.
        due("15: path of 4", graph(1, 2, 0, 1, 2, 3).matching(), 2);
        due("15: two triangles", graph(0, 1, 1, 2, 0, 2, 3, 4, 4, 5, 3, 5).matching(), 2);
        CoverKernel x = complete(8);
        due("15: before the parting", x.matching(), 4);
        for (int v = 0; v < 7; v++) {
            x.join(7, v, false);
        }
        due("15: after the parting", x.matching(), 3);
    }

    private static void evenly() {
        due("16: no edges", graph().evenly(), false);
        due("16: one edge", graph(0, 1).evenly(), false);
        due("16: star", star(3).evenly(), false);
        due("16: ring of 7, one vertex alone", ring(7).evenly(), false);
        due("16: ring of 8", ring(8).evenly(), true);
        due("16: all edges", complete(8).evenly(), true);
        due("16: four edges apart", graph(0, 1, 2, 3, 4, 5, 6, 7).evenly(), true);
        due("16: triangle and ring of 5", graph(0, 1, 1, 2, 0, 2, 3, 4, 4, 5, 5, 6, 6, 7, 7, 3).evenly(), true);
        due("16: path of 3 and ring of 5", graph(0, 1, 1, 2, 3, 4, 4, 5, 5, 6, 6, 7, 7, 3).evenly(), false);
    }

    private static void tightCovers() {
        due("17: no edges", graph().tightCovers(), 1);
        due("17: one edge", graph(5, 6).tightCovers(), 2);
        due("17: star", star(2).tightCovers(), 2);
        due("17: triangle", complete(3).tightCovers(), 3);
        due("17: path of 4", graph(0, 1, 1, 2, 2, 3).tightCovers(), 3);
        due("17: ring of 5", ring(5).tightCovers(), 5);
        due("17: four edges apart", graph(0, 1, 2, 3, 4, 5, 6, 7).tightCovers(), 16);
        due("17: two triangles and an edge", graph(0, 1, 1, 2, 0, 2, 3, 4, 4, 5, 3, 5, 6, 7).tightCovers(), 18);
        due("17: all edges", complete(8).tightCovers(), 8);
    }

    private static void objectsStandAlone() {
        CoverKernel first = complete(8);
        CoverKernel second = new CoverKernel();
        due("1: a second object has no edges", second.edges(), 0);
        second.join(0, 1, true);
        second.join(0, 1, false);
        due("1: the first keeps its edges", first.edges(), 28);
    }

    private static void longUse() {
        CoverKernel x = new CoverKernel();
        for (int call = 0; call < 504; call += 6) {
            boolean on = call % 12 == 0;
            due("long use: join", x.join(6, 7, on), true);
            due("long use: edges", x.edges(), on ? 1 : 0);
            due("long use: matching", x.matching(), on ? 1 : 0);
            due("long use: leastCover", x.leastCover(), on ? 64 : 0);
            due("long use: halves", x.halves(), on ? 2 : 0);
            due("long use: bare", x.bare(), on ? 63 : 255);
        }
    }

    private static CoverKernel graph(int... ends) {
        CoverKernel x = new CoverKernel();
        for (int i = 0; i < ends.length; i += 2) {
            x.join(ends[i], ends[i + 1], true);
        }
        return x;
    }

    private static CoverKernel complete(int vertices) {
        CoverKernel x = new CoverKernel();
        for (int a = 0; a < vertices; a++) {
            for (int b = 0; b < a; b++) {
                x.join(a, b, true);
            }
        }
        return x;
    }

    private static CoverKernel ring(int vertices) {
        CoverKernel x = new CoverKernel();
        for (int v = 0; v < vertices; v++) {
            x.join(v, (v + 1) % vertices, true);
        }
        return x;
    }

    private static CoverKernel star(int middle) {
        CoverKernel x = new CoverKernel();
        for (int v = 0; v < 8; v++) {
            x.join(middle, v, true);
        }
        return x;
    }

    private static void due(String call, boolean got, boolean want) {
        due(call, got ? 1 : 0, want ? 1 : 0);
    }

    private static void due(String call, int got, int want) {
        if (got != want) {
            wrong++;
            System.out.println(call + " answered " + got + ", due is " + want);
        }
    }
}
