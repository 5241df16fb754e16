import java.util.ArrayList;
import java.util.List;
import java.util.Random;

/**
 * Compares every answer with one found from the words of the document alone: each set of vertices,
 * each gift of 0, 1 or 2 halves, and each choice of edges is tried. None of the class's short cuts
 * is used here.
 */
public final class DefinitionsTest {
    private static final int GIFTS = 6561;
    private static final int[][] HALVES = giftTable();

    private static int wrong = 0;
    private static String graphName = "";

    private final boolean[][] edge = new boolean[8][8];
    private final List<int[]> edgeList = new ArrayList<>();

    private DefinitionsTest(long graph) {
        int place = 0;
        for (int b = 1; b < 8; b++) {
            for (int a = 0; a < b; a++) {
                if ((graph >> place & 1) == 1) {
                    edge[a][b] = true;
                    edge[b][a] = true;
                    edgeList.add(new int[] {a, b});
                }
                place++;
            }
        }
    }

    public static void main(String[] args) {
        Random random = new Random(20261116);
        // Places 0 .. 5 are the edges among vertices 0 .. 3.
        for (int graph = 0; graph < 64; graph++) {
            compare(graph, random);
        }
        for (int i = 0; i < 1200; i++) {
            compare(someGraph(random, 1 + i % 12), random);
        }
        System.out.println(wrong == 0 ? "all answers are as due" : wrong + " answers are not as due");
        if (wrong != 0) {
            System.exit(1);
        }
    }

    /** Each edge is there with a chance of density in 13. */
    private static long someGraph(Random random, int density) {
        long graph = 0;
        for (int place = 0; place < 28; place++) {
            if (random.nextInt(13) < density) {
                graph |= 1L << place;
            }
        }
        return graph;
    }

    private static void compare(long graph, Random random) {
        DefinitionsTest plain = new DefinitionsTest(graph);
        graphName = "graph " + graph;
        CoverKernel x = plain.build(random);
        plain.compareGraph(x);
        plain.compareCovers(x, random);
        plain.compareHalfCovers(x);
        due("matching()", x.matching(), plain.mostApart(0, 0));
        plain.compareGraph(x);
    }

    /** Some pairs are joined and parted on the way, so that parting leaves no trace. */
    private CoverKernel build(Random random) {
        CoverKernel x = new CoverKernel();
        for (int i = 0; i < 20; i++) {
            x.join(random.nextInt(8), random.nextInt(8), true);
        }
        x.matching();
        for (int a = 0; a < 8; a++) {
            for (int b = 0; b < a; b++) {
                boolean turned = random.nextBoolean();
                x.join(turned ? b : a, turned ? a : b, edge[a][b]);
            }
        }
        return x;
    }

    private void compareGraph(CoverKernel x) {
        due("edges()", x.edges(), edgeList.size());
        for (int v = 0; v < 8; v++) {
            int set = 0;
            for (int w = 0; w < 8; w++) {
                set |= edge[v][w] ? 1 << w : 0;
            }
            due("neighbours(" + v + ")", x.neighbours(v), set);
        }
    }

    private void compareCovers(CoverKernel x, Random random) {
        int least = 8;
        for (int set = 0; set < 256; set++) {
            if (random.nextInt(4) == 0) {
                due("covers(" + set + ")", x.covers(set) ? 1 : 0, isCover(set) ? 1 : 0);
            }
            least = isCover(set) ? Math.min(least, Integer.bitCount(set)) : least;
        }
        int first = -1;
        int always = 255;
        int never = 255;
        int tight = 0;
        for (int set = 255; set >= 0; set--) {
            if (isCover(set) && Integer.bitCount(set) == least) {
                first = set;
                always &= set;
                never &= ~set;
            }
            tight += isTight(set) ? 1 : 0;
        }
        due("least()", x.least(), least);
        due("leastCover()", x.leastCover(), first);
        due("always()", x.always(), always);
        due("never()", x.never(), never);
        due("tightCovers()", x.tightCovers(), tight);
        for (int i = 0; i < 40; i++) {
            int in = random.nextInt(256) & random.nextInt(256);
            int out = random.nextInt(256) & random.nextInt(256) & (i % 4 == 0 ? 255 : ~in);
            due("leastWith(" + in + ", " + out + ")", x.leastWith(in, out), leastWith(in, out));
        }
    }

    private boolean isCover(int set) {
        for (int[] ends : edgeList) {
            if ((set >> ends[0] & 1) == 0 && (set >> ends[1] & 1) == 0) {
                return false;
            }
        }
        return true;
    }

    private boolean isTight(int set) {
        if (!isCover(set)) {
            return false;
        }
        for (int part = 0; part < set; part++) {
            if ((part & set) == part && isCover(part)) {
                return false;
            }
        }
        return true;
    }

    private int leastWith(int in, int out) {
        int least = -1;
        for (int set = 0; set < 256; set++) {
            int count = Integer.bitCount(set);
            if (isCover(set) && (in & ~set) == 0 && (out & set) == 0 && (least < 0 || count < least)) {
                least = count;
            }
        }
        return least;
    }

    private void compareHalfCovers(CoverKernel x) {
        int least = 16;
        for (int gift = 0; gift < GIFTS; gift++) {
            least = isHalfCover(gift) ? Math.min(least, cost(gift)) : least;
        }
        boolean[][] can = new boolean[8][3];
        int ones = 0;
        for (int gift = 0; gift < GIFTS; gift++) {
            if (isHalfCover(gift) && cost(gift) == least) {
                boolean even = true;
                for (int v = 0; v < 8; v++) {
                    can[v][HALVES[gift][v]] = true;
                    even &= HALVES[gift][v] == 1;
                }
                ones += even ? 1 : 0;
            }
        }
        int whole = 0;
        int bare = 0;
        for (int v = 0; v < 8; v++) {
            whole |= can[v][0] || can[v][1] ? 0 : 1 << v;
            bare |= can[v][1] || can[v][2] ? 0 : 1 << v;
            for (int n = 0; n < 3; n++) {
                due("canHave(" + v + ", " + n + ")", x.canHave(v, n) ? 1 : 0, can[v][n] ? 1 : 0);
            }
        }
        due("halves()", x.halves(), least);
        due("whole()", x.whole(), whole);
        due("bare()", x.bare(), bare);
        due("evenly()", x.evenly() ? 1 : 0, ones);
    }

    /** Digit v, to base 3, of each gift: the halves of vertex v. */
    private static int[][] giftTable() {
        int[][] table = new int[GIFTS][8];
        for (int gift = 0; gift < GIFTS; gift++) {
            int digits = gift;
            for (int v = 0; v < 8; v++) {
                table[gift][v] = digits % 3;
                digits /= 3;
            }
        }
        return table;
    }

    private static int cost(int gift) {
        int sum = 0;
        for (int v = 0; v < 8; v++) {
            sum += HALVES[gift][v];
        }
        return sum;
    }

    private boolean isHalfCover(int gift) {
        for (int[] ends : edgeList) {
            if (HALVES[gift][ends[0]] + HALVES[gift][ends[1]] < 2) {
                return false;
            }
        }
        return true;
    }

    /** The most edges, from this place of the list on, that share no end with each other or with the used ones. */
    private int mostApart(int from, int used) {
        int most = 0;
        for (int i = from; i < edgeList.size(); i++) {
            int ends = 1 << edgeList.get(i)[0] | 1 << edgeList.get(i)[1];
            if ((ends & used) == 0) {
                most = Math.max(most, 1 + mostApart(i + 1, used | ends));
            }
        }
        return most;
    }

    private static void due(String call, int got, int want) {
        if (got != want) {
            wrong++;
            System.out.println(graphName + ": " + call + " answered " + got + ", due is " + want);
        }
    }
}
