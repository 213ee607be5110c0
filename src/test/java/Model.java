import java.util.Arrays;

/**
 * The document's terms, reckoned another way than in the program: flows by augmenting paths,
 * the first and the last cut from what a greatest flow leaves over.
 */
final class Model {
    private static final int NO_BOUND = 1_000_000;

    final int[] capacity = new int[17];
    final boolean[] closed = new boolean[17];

    /** The street between two good crossings, or -2. */
    static int street(int a, int b) {
        int low = Math.min(a, b);
        int high = Math.max(a, b);
        int row = low / 4;
        int column = low % 4;
        if (row == high / 4 && column + 1 == high % 4) {
            return 3 * row + column;
        }
        if (row + 1 == high / 4 && column == high % 4) {
            return 9 + 4 * row + column;
        }
        return -2;
    }

    private int[][] room() {
        int[][] room = new int[12][12];
        for (int a = 0; a < 12; a++) {
            for (int b = 0; b < 12; b++) {
                int street = street(a, b);
                room[a][b] = street < 0 || closed[street] ? 0 : capacity[street];
            }
        }
        return room;
    }

    private static boolean[] reach(int[][] room, int from, int[] cameFrom) {
        boolean[] seen = new boolean[12];
        int[] queue = new int[12];
        int end = 1;
        queue[0] = from;
        seen[from] = true;
        for (int at = 0; at < end; at++) {
            int a = queue[at];
            for (int b = 0; b < 12; b++) {
                if (!seen[b] && room[a][b] > 0) {
                    seen[b] = true;
                    cameFrom[b] = a;
                    queue[end++] = b;
                }
            }
        }
        return seen;
    }

    /** The greatest value of a flow; room is left as the flow leaves it. */
    private static int fill(int[][] room) {
        int value = 0;
        int[] cameFrom = new int[12];
        while (reach(room, 0, cameFrom)[11]) {
            int least = Integer.MAX_VALUE;
            for (int b = 11; b != 0; b = cameFrom[b]) {
                least = Math.min(least, room[cameFrom[b]][b]);
            }
            for (int b = 11; b != 0; b = cameFrom[b]) {
                room[cameFrom[b]][b] -= least;
                room[b][cameFrom[b]] += least;
            }
            value += least;
        }
        return value;
    }

    int flow() {
        return fill(room());
    }

    int weight(int cut) {
        int[][] room = room();
        int sum = 0;
        for (int a = 0; a < 12; a++) {
            for (int b = 0; b < 12; b++) {
                if ((cut >> a & 1) == 1 && (cut >> b & 1) == 0) {
                    sum += room[a][b];
                }
            }
        }
        return sum;
    }

    int firstCut() {
        int[][] room = room();
        fill(room);
        boolean[] seen = reach(room, 0, new int[12]);
        int cut = 0;
        for (int k = 0; k < 12; k++) {
            cut += seen[k] ? 1 << k : 0;
        }
        return cut;
    }

    int lastCut() {
        int[][] room = room();
        fill(room);
        int cut = 0;
        for (int k = 0; k < 12; k++) {
            cut += reach(room, k, new int[12])[11] ? 0 : 1 << k;
        }
        return cut;
    }

    int leastWith(int k) {
        int[][] room = room();
        room[0][k] += NO_BOUND;
        return fill(room);
    }

    int leastWithout(int k) {
        int[][] room = room();
        room[k][11] += NO_BOUND;
        return fill(room);
    }

    private Model copy() {
        Model copy = new Model();
        System.arraycopy(capacity, 0, copy.capacity, 0, 17);
        System.arraycopy(closed, 0, copy.closed, 0, 17);
        return copy;
    }

    int loss(int street) {
        Model changed = copy();
        changed.closed[street] = true;
        return flow() - changed.flow();
    }

    int gain(int street, int amount) {
        Model changed = copy();
        changed.capacity[street] += amount;
        return changed.flow() - flow();
    }

    int way(int a, int b) {
        return reach(room(), a, new int[12])[b] ? 1 : 0;
    }

    int cutStreets() {
        int cut = firstCut();
        int[][] room = room();
        int count = 0;
        for (int a = 0; a < 12; a++) {
            for (int b = 0; b < 12; b++) {
                if ((cut >> a & 1) == 1 && (cut >> b & 1) == 0 && room[a][b] > 0) {
                    count++;
                }
            }
        }
        return count;
    }

    @Override
    public String toString() {
        return "capacities " + Arrays.toString(capacity) + " closed " + Arrays.toString(closed);
    }
}
