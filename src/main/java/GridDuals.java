/**
 * Greatest flows and least cuts on a small grid of streets.
 *
 * There are only 1024 cuts, and the greatest flow is the least weight of a cut,
 * so every question about flows is answered by looking at all cuts.
 */
public final class GridDuals {
    private static final int ROW_STREETS = 9;
    private static final int STREETS = 17;
    private static final int CROSSINGS = 12;
    private static final int SOURCE = 0;
    private static final int SINK = 11;
    private static final int MOST_CAPACITY = 20;
    private static final int MOST_AMOUNT = 100;
    private static final int ALL_SETS = 4096;

    // Going from FIRST by STEP to below END meets just the sets with crossing 0 and without 11.
    private static final int CUTS_FIRST = 1;
    private static final int CUTS_STEP = 2;
    private static final int CUTS_END = 2048;

    // Above every weight: 17 streets of at most 20, and 100 added by gain.
    private static final int ABOVE_ALL_WEIGHTS = 1000;

    private final int[] capacities = new int[STREETS];
    private final boolean[] closed = new boolean[STREETS];

    public GridDuals() {
    }

    public int set(int street, int capacity) {
        if (!isStreet(street)) {
            return -1;
        }
        if (capacity < 0 || capacity > MOST_CAPACITY) {
            return -2;
        }
        int before = capacities[street];
        capacities[street] = capacity;
        return before;
    }

    public int sow(int seed, int bend) {
        if (seed < 0 || seed > 20) {
            return -1;
        }
        if (bend < 0 || bend > 20) {
            return -2;
        }
        int sum = 0;
        for (int k = 0; k < STREETS; k++) {
            capacities[k] = (seed + 7 * k + k * k * bend) % 21;
            sum += capacities[k];
        }
        return sum;
    }

    public int close(int street, int flag) {
        if (!isStreet(street)) {
            return -1;
        }
        int before = closed[street] ? 1 : 0;
        closed[street] = flag != 0;
        return before;
    }

    public int capacity(int street) {
        if (!isStreet(street)) {
            return -1;
        }
        return capacities[street];
    }

    public int between(int a, int b) {
        if (!isCrossing(a) || !isCrossing(b)) {
            return -1;
        }
        int both = (1 << a) | (1 << b);
        for (int street = 0; street < STREETS; street++) {
            if (ends(street) == both) {
                return street;
            }
        }
        return -2;
    }

    public int flow() {
        return leastWeight(0, 0);
    }

    public int weight(int cut) {
        if (cut < 0 || cut >= ALL_SETS) {
            return -1;
        }
        if (!contains(cut, SOURCE)) {
            return -2;
        }
        if (contains(cut, SINK)) {
            return -3;
        }
        return weightOf(cut);
    }

    public int firstCut() {
        int least = leastWeight(0, 0);
        return commonPart(least);
    }

    public int lastCut() {
        int least = leastWeight(0, 0);
        int union = 0;
        for (int cut = CUTS_FIRST; cut < CUTS_END; cut += CUTS_STEP) {
            if (weightOf(cut) == least) {
                union |= cut;
            }
        }
        return union;
    }

    public int leastWith(int k) {
        if (!isCrossing(k)) {
            return -1;
        }
        if (k == SINK) {
            return -2;
        }
        return leastWeight(1 << k, 0);
    }

    public int leastWithout(int k) {
        if (!isCrossing(k)) {
            return -1;
        }
        if (k == SOURCE) {
            return -2;
        }
        return leastWeight(0, 1 << k);
    }

    public int loss(int street) {
        if (!isStreet(street)) {
            return -1;
        }
        int taken = openCapacity(street);
        return leastWeight(0, 0) - leastWeightChanged(street, -taken);
    }

    public int gain(int street, int amount) {
        if (!isStreet(street)) {
            return -1;
        }
        if (amount < 0 || amount > MOST_AMOUNT) {
            return -2;
        }
        if (closed[street]) {
            return 0;
        }
        return leastWeightChanged(street, amount) - leastWeight(0, 0);
    }

    public int way(int a, int b) {
        if (!isCrossing(a) || !isCrossing(b)) {
            return -1;
        }
        int reached = 1 << a;
        // A shortest way has fewer streets than there are crossings.
        for (int round = 1; round < CROSSINGS; round++) {
            reached = withNeighbours(reached);
        }
        return contains(reached, b) ? 1 : 0;
    }

    public int cutStreets() {
        int least = leastWeight(0, 0);
        int cut = commonPart(least);
        int count = 0;
        for (int street = 0; street < STREETS; street++) {
            if (crosses(street, cut) && openCapacity(street) > 0) {
                count++;
            }
        }
        return count;
    }

    private static boolean isStreet(int street) {
        return street >= 0 && street < STREETS;
    }

    private static boolean isCrossing(int k) {
        return k >= 0 && k < CROSSINGS;
    }

    /** The set of the street's two ends, written like a cut. */
    private static int ends(int street) {
        if (street < ROW_STREETS) {
            int left = 4 * (street / 3) + street % 3;
            return (1 << left) | (1 << (left + 1));
        }
        int upper = street - ROW_STREETS;
        return (1 << upper) | (1 << (upper + 4));
    }

    private static boolean contains(int crossings, int k) {
        return (crossings & (1 << k)) != 0;
    }

    private static boolean crosses(int street, int cut) {
        int both = ends(street);
        int inside = cut & both;
        return inside != 0 && inside != both;
    }

    private int openCapacity(int street) {
        return closed[street] ? 0 : capacities[street];
    }

    private int weightOf(int cut) {
        int sum = 0;
        for (int street = 0; street < STREETS; street++) {
            if (crosses(street, cut)) {
                sum += openCapacity(street);
            }
        }
        return sum;
    }

    /** The least weight of a cut that has all crossings of one set and none of another. */
    private int leastWeight(int has, int hasNot) {
        int least = ABOVE_ALL_WEIGHTS;
        for (int cut = CUTS_FIRST; cut < CUTS_END; cut += CUTS_STEP) {
            if ((cut & has) == has && (cut & hasNot) == 0) {
                int found = weightOf(cut);
                least = found < least ? found : least;
            }
        }
        return least;
    }

    /** The least weight of a cut if the street's open capacity were greater by change. */
    private int leastWeightChanged(int street, int change) {
        int least = ABOVE_ALL_WEIGHTS;
        for (int cut = CUTS_FIRST; cut < CUTS_END; cut += CUTS_STEP) {
            int found = weightOf(cut);
            if (crosses(street, cut)) {
                found += change;
            }
            least = found < least ? found : least;
        }
        return least;
    }

    /** What all cuts of the given weight have in common. */
    private int commonPart(int weight) {
        int common = CUTS_END - 1;
        for (int cut = CUTS_FIRST; cut < CUTS_END; cut += CUTS_STEP) {
            if (weightOf(cut) == weight) {
                common &= cut;
            }
        }
        return common;
    }

    /** The crossings of a set and those that one passable street joins to it. */
    private int withNeighbours(int crossings) {
        int wider = crossings;
        for (int street = 0; street < STREETS; street++) {
            if (crosses(street, crossings) && openCapacity(street) > 0) {
                wider |= ends(street);
            }
        }
        return wider;
    }
}
