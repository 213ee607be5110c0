/**
 * All promises: long runs of calls, each answer held against the model's. Every change and refusal
 * is followed by questions, so a question or a refused call that changed something is seen too.
 */
public final class ModelTest {
    private static final int RUNS = 120;
    private static final int CALLS = 512;

    private long state = 20261115L;
    private GridDuals x;
    private Model model;

    public static void main(String[] args) {
        ModelTest test = new ModelTest();
        for (int run = 0; run < RUNS; run++) {
            test.x = new GridDuals();
            test.model = new Model();
            // Small capacities make many cuts of least weight, large ones few.
            int most = run % 4 == 0 ? 20 : run % 4;
            for (int call = 0; call < CALLS; call++) {
                test.step(most);
            }
        }
        Due.end();
    }

    /** A fixed row of numbers, so that every run of the test is the same. */
    private int pick(int low, int high) {
        state = state * 6364136223846793005L + 1442695040888963407L;
        return low + (int) ((state >>> 33) % (high - low + 1));
    }

    private void step(int most) {
        switch (pick(0, 19)) {
            case 0: case 1: case 2: case 3: case 4: set(pick(-1, 17), pick(-1, most)); break;
            case 5: if (pick(0, 9) == 0) { sow(pick(-1, 21), pick(-1, 21)); } break;
            case 6: close(pick(-1, 17), pick(0, 3) == 0 ? pick(-3, 3) : 0); break;
            case 7: capacity(pick(-1, 17)); break;
            case 8: between(pick(-1, 12), pick(-1, 12)); break;
            case 9: due("flow", model.flow(), x.flow()); break;
            case 10: weight(pick(0, 9) == 0 ? pick(-2, 4100) : 2 * pick(0, 1023) + 1); break;
            case 11: due("firstCut", model.firstCut(), x.firstCut()); break;
            case 12: due("lastCut", model.lastCut(), x.lastCut()); break;
            case 13: leastWith(pick(-1, 12)); break;
            case 14: leastWithout(pick(-1, 12)); break;
            case 15: loss(pick(-1, 17)); break;
            case 16: gain(pick(-1, 17), pick(0, 1) == 0 ? pick(0, 5) : pick(-1, 101)); break;
            case 17: case 18: way(pick(-1, 12), pick(-1, 12)); break;
            default: due("cutStreets", model.cutStreets(), x.cutStreets()); break;
        }
    }

    private static boolean good(int number, int end) {
        return number >= 0 && number < end;
    }

    private void due(String call, int want, int got) {
        if (want != got) {
            Due.is(call + " with " + model, got, want);
        }
    }

    private void set(int street, int capacity) {
        int want = !good(street, 17) ? -1 : !good(capacity, 21) ? -2 : model.capacity[street];
        due("set(" + street + ", " + capacity + ")", want, x.set(street, capacity));
        if (want >= 0) {
            model.capacity[street] = capacity;
        }
    }

    private void sow(int seed, int bend) {
        int want = !good(seed, 21) ? -1 : !good(bend, 21) ? -2 : 0;
        for (int k = 0; k < 17 && want >= 0; k++) {
            model.capacity[k] = (seed + 7 * k + k * k * bend) % 21;
            want += model.capacity[k];
        }
        due("sow(" + seed + ", " + bend + ")", want, x.sow(seed, bend));
    }

    private void close(int street, int flag) {
        int want = !good(street, 17) ? -1 : model.closed[street] ? 1 : 0;
        due("close(" + street + ", " + flag + ")", want, x.close(street, flag));
        if (want >= 0) {
            model.closed[street] = flag != 0;
        }
    }

    private void capacity(int street) {
        due("capacity(" + street + ")", good(street, 17) ? model.capacity[street] : -1, x.capacity(street));
    }

    private void between(int a, int b) {
        int want = good(a, 12) && good(b, 12) ? Model.street(a, b) : -1;
        due("between(" + a + ", " + b + ")", want, x.between(a, b));
    }

    private void weight(int cut) {
        int want = !good(cut, 4096) ? -1 : cut % 2 == 0 ? -2 : cut >= 2048 ? -3 : model.weight(cut);
        due("weight(" + cut + ")", want, x.weight(cut));
    }

    private void leastWith(int k) {
        int want = !good(k, 12) ? -1 : k == 11 ? -2 : model.leastWith(k);
        due("leastWith(" + k + ")", want, x.leastWith(k));
    }

    private void leastWithout(int k) {
        int want = !good(k, 12) ? -1 : k == 0 ? -2 : model.leastWithout(k);
        due("leastWithout(" + k + ")", want, x.leastWithout(k));
    }

    private void loss(int street) {
        due("loss(" + street + ")", good(street, 17) ? model.loss(street) : -1, x.loss(street));
    }

    private void gain(int street, int amount) {
        int want = !good(street, 17) ? -1 : !good(amount, 101) ? -2 : model.gain(street, amount);
        due("gain(" + street + ", " + amount + ")", want, x.gain(street, amount));
    }

    private void way(int a, int b) {
        int want = good(a, 12) && good(b, 12) ? model.way(a, b) : -1;
        due("way(" + a + ", " + b + ")", want, x.way(a, b));
    }
}
