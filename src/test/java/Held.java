import java.util.Arrays;
import java.util.Map;
import java.util.TreeMap;

/** A new object with a model beside it: every call is made on both and must be answered alike. */
final class Held {
    private final GridDuals x = new GridDuals();
    private final Model model = new Model();
    private final Map<String, Integer> timesCalled = new TreeMap<>();
    private int calls = 0;

    /** How many calls the object has had. */
    int calls() {
        return calls;
    }

    int timesCalled(String method) {
        return timesCalled.getOrDefault(method, 0);
    }

    private static boolean good(int number, int end) {
        return number >= 0 && number < end;
    }

    private void due(int want, int got, String method, int... arguments) {
        calls++;
        timesCalled.merge(method, 1, Integer::sum);
        // Words are made for a wrong answer alone: there are very many calls.
        if (want != got) {
            Due.is("call " + calls + ", " + method + Arrays.toString(arguments) + " with " + model, got, want);
        }
    }

    void set(int street, int capacity) {
        int want = !good(street, 17) ? -1 : !good(capacity, 21) ? -2 : model.capacity[street];
        due(want, x.set(street, capacity), "set", street, capacity);
        if (want >= 0) {
            model.capacity[street] = capacity;
        }
    }

    void sow(int seed, int bend) {
        int want = !good(seed, 21) ? -1 : !good(bend, 21) ? -2 : 0;
        for (int k = 0; k < 17 && want >= 0; k++) {
            model.capacity[k] = (seed + 7 * k + k * k * bend) % 21;
            want += model.capacity[k];
        }
        due(want, x.sow(seed, bend), "sow", seed, bend);
    }

    void close(int street, int flag) {
        int want = !good(street, 17) ? -1 : model.closed[street] ? 1 : 0;
        due(want, x.close(street, flag), "close", street, flag);
        if (want >= 0) {
            model.closed[street] = flag != 0;
        }
    }

    void capacity(int street) {
        int want = good(street, 17) ? model.capacity[street] : -1;
        due(want, x.capacity(street), "capacity", street);
    }

    void between(int a, int b) {
        int want = good(a, 12) && good(b, 12) ? Model.street(a, b) : -1;
        due(want, x.between(a, b), "between", a, b);
    }

    void flow() {
        due(model.flow(), x.flow(), "flow");
    }

    void weight(int cut) {
        int want = !good(cut, 4096) ? -1 : cut % 2 == 0 ? -2 : cut >= 2048 ? -3 : model.weight(cut);
        due(want, x.weight(cut), "weight", cut);
    }

    void firstCut() {
        due(model.firstCut(), x.firstCut(), "firstCut");
    }

    void lastCut() {
        due(model.lastCut(), x.lastCut(), "lastCut");
    }

    void leastWith(int k) {
        int want = !good(k, 12) ? -1 : k == 11 ? -2 : model.leastWith(k);
        due(want, x.leastWith(k), "leastWith", k);
    }

    void leastWithout(int k) {
        int want = !good(k, 12) ? -1 : k == 0 ? -2 : model.leastWithout(k);
        due(want, x.leastWithout(k), "leastWithout", k);
    }

    void loss(int street) {
        int want = good(street, 17) ? model.loss(street) : -1;
        due(want, x.loss(street), "loss", street);
    }

    void gain(int street, int amount) {
        int want = !good(street, 17) ? -1 : !good(amount, 101) ? -2 : model.gain(street, amount);
        due(want, x.gain(street, amount), "gain", street, amount);
    }

    void way(int a, int b) {
        int want = good(a, 12) && good(b, 12) ? model.way(a, b) : -1;
        due(want, x.way(a, b), "way", a, b);
    }

    void cutStreets() {
        due(model.cutStreets(), x.cutStreets(), "cutStreets");
    }

    /** Every capacity and every closed street; 34 calls. */
    void state() {
        for (int street = 0; street < 17; street++) {
            capacity(street);
            close(street, model.closed[street] ? 1 : 0);
        }
    }
}
