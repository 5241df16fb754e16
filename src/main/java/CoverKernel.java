/** Covers the edges of a small graph with few vertices, and with halves of vertices. */
public final class CoverKernel {
    public static final int NONE = -1;

    private static final int VERTICES = 8;
    private static final int SETS = 256;
    private static final int ALL = SETS - 1;
    /** Above the cost of every half cover, which is at most 2 halves for each vertex. */
    private static final int NO_HALF_COVER = 2 * VERTICES + 1;

    /** The neighbours of each vertex, as a set; an edge is held at both of its ends. */
    private final int[] joined = new int[VERTICES];
    /** Working space of matching(): the most disjoint edges inside each set of vertices. */
    private final int[] disjoint = new int[SETS];

    public CoverKernel() {
    }

    public boolean join(int a, int b, boolean on) {
        if (a == b || !isVertex(a) || !isVertex(b)) {
            return false;
        }
        if (on) {
            joined[a] |= 1 << b;
            joined[b] |= 1 << a;
        } else {
            joined[a] &= ~(1 << b);
            joined[b] &= ~(1 << a);
        }
        return true;
    }

    public int neighbours(int v) {
        return isVertex(v) ? joined[v] : 0;
    }

    public int edges() {
        int ends = 0;
        for (int v = 0; v < VERTICES; v++) {
            ends += size(joined[v]);
        }
        return ends / 2;
    }

    public boolean covers(int set) {
        return isSet(set) && isCover(set);
    }

    public int least() {
        return leastWith(0, 0);
    }

    public int leastCover() {
        int fewest = least();
        for (int set = 0; set < SETS; set++) {
            if (size(set) == fewest && isCover(set)) {
                return set;
            }
        }
        return ALL;
    }

    public int leastWith(int in, int out) {
        if (!isSet(in) || !isSet(out)) {
            return NONE;
        }
        int fewest = NONE;
        for (int set = 0; set < SETS; set++) {
            boolean allowed = (set & in) == in && (set & out) == 0;
            if (allowed && isCover(set)) {
                int count = size(set);
                if (fewest == NONE || count < fewest) {
                    fewest = count;
                }
            }
        }
        return fewest;
    }

    public int always() {
        int fewest = least();
        int inEvery = ALL;
        for (int set = 0; set < SETS; set++) {
            if (size(set) == fewest && isCover(set)) {
                inEvery &= set;
            }
        }
        return inEvery;
    }

    public int never() {
        int fewest = least();
        int inSome = 0;
        for (int set = 0; set < SETS; set++) {
            if (size(set) == fewest && isCover(set)) {
                inSome |= set;
            }
        }
        return ALL & ~inSome;
    }

    public int halves() {
        int cheapest = NO_HALF_COVER;
        for (int zeros = 0; zeros < SETS; zeros++) {
            int cost = costWithZeros(zeros);
            if (cost < cheapest) {
                cheapest = cost;
            }
        }
        return cheapest;
    }

    public int whole() {
        int cheapest = halves();
        int inEvery = ALL;
        for (int zeros = 0; zeros < SETS; zeros++) {
            if (costWithZeros(zeros) == cheapest) {
                inEvery &= around(zeros);
            }
        }
        return inEvery;
    }

    public int bare() {
        int cheapest = halves();
        int inEvery = ALL;
        for (int zeros = 0; zeros < SETS; zeros++) {
            if (costWithZeros(zeros) == cheapest) {
                inEvery &= zeros;
            }
        }
        return inEvery;
    }

    public boolean canHave(int v, int n) {
        if (!isVertex(v) || n < 0 || n > 2) {
            return false;
        }
        int cheapest = halves();
        for (int zeros = 0; zeros < SETS; zeros++) {
            if (costWithZeros(zeros) == cheapest && halvesOf(v, zeros) == n) {
                return true;
            }
        }
        return false;
    }

    public int matching() {
        // With v the highest vertex of each set, every smaller set is filled in before it is read.
        disjoint[0] = 0;
        for (int v = 0; v < VERTICES; v++) {
            int bit = 1 << v;
            for (int rest = 0; rest < bit; rest++) {
                disjoint[bit | rest] = mostDisjoint(v, rest);
            }
        }
        return disjoint[ALL];
    }

    public boolean evenly() {
        return halves() == VERTICES;
    }

    public int tightCovers() {
        int count = 0;
        for (int set = 0; set < SETS; set++) {
            if (isCover(set) && needsEachVertex(set)) {
                count++;
            }
        }
        return count;
    }

    private static boolean isVertex(int v) {
        return v >= 0 && v < VERTICES;
    }

    private static boolean isSet(int set) {
        return set >= 0 && set < SETS;
    }

    private static boolean has(int set, int v) {
        return (set >> v & 1) == 1;
    }

    private static int size(int set) {
        int count = 0;
        for (int v = 0; v < VERTICES; v++) {
            count += set >> v & 1;
        }
        return count;
    }

    /** The vertices that are joined to at least one vertex of the set. */
    private int around(int set) {
        int found = 0;
        for (int v = 0; v < VERTICES; v++) {
            if (has(set, v)) {
                found |= joined[v];
            }
        }
        return found;
    }

    /** An edge is missed exactly when both of its ends are left out. */
    private boolean isCover(int set) {
        int left = ALL & ~set;
        return (around(left) & left) == 0;
    }

    /**
     * Taking out one vertex at a time is enough, since a set that has a cover in it is a cover;
     * and a vertex can be taken out of a cover unless it has a neighbour outside.
     */
    private boolean needsEachVertex(int cover) {
        int left = ALL & ~cover;
        return (cover & ~around(left)) == 0;
    }

    /**
     * The least cost of a half cover with 0 halves at just these vertices. Their neighbours must
     * have 2 halves, and all others do with 1; so one half cover alone has that cost, and looking
     * at each set of zeros once finds every best half cover.
     */
    private int costWithZeros(int zeros) {
        int twos = around(zeros);
        if ((twos & zeros) != 0) {
            return NO_HALF_COVER;
        }
        return VERTICES + size(twos) - size(zeros);
    }

    /** The halves of v in the cheapest half cover with just these zeros. */
    private int halvesOf(int v, int zeros) {
        if (has(zeros, v)) {
            return 0;
        }
        int twos = around(zeros);
        return has(twos, v) ? 2 : 1;
    }

    /** The most disjoint edges inside the set of v and the rest: v is left alone, or has a partner. */
    private int mostDisjoint(int v, int rest) {
        int most = disjoint[rest];
        int partners = joined[v] & rest;
        for (int w = 0; w < v; w++) {
            if (has(partners, w)) {
                int count = disjoint[rest & ~(1 << w)] + 1;
                most = count > most ? count : most;
            }
        }
        return most;
    }
}
