/** Promises 1 to 6: a new object, set, sow, close, capacity, between. */
public final class StateTest {
    private static final int[] BAD_STREETS = {-1, 17, Integer.MIN_VALUE, Integer.MAX_VALUE};
    private static final int[] BAD_CROSSINGS = {-1, 12, Integer.MIN_VALUE, Integer.MAX_VALUE};
    private static final int[] BAD_CAPACITIES = {-1, 21, Integer.MIN_VALUE, Integer.MAX_VALUE};

    public static void main(String[] args) {
        newObject();
        set();
        sow();
        close();
        between();
        Due.end();
    }

    private static void newObject() {
        GridDuals x = new GridDuals();
        for (int street = 0; street < 17; street++) {
            Due.is("new: capacity(" + street + ")", x.capacity(street), 0);
        }
        for (int street = 0; street < 17; street++) {
            Due.is("new: close(" + street + ", 0)", x.close(street, 0), 0);
        }
        GridDuals other = new GridDuals();
        x.set(4, 9);
        Due.is("another object's capacity(4)", other.capacity(4), 0);
    }

    private static void set() {
        GridDuals x = new GridDuals();
        for (int street = 0; street < 17; street++) {
            Due.is("set(" + street + ", first)", x.set(street, street + 3), 0);
        }
        for (int street = 0; street < 17; street++) {
            Due.is("capacity(" + street + ")", x.capacity(street), street + 3);
        }
        Due.is("set(5, 0)", x.set(5, 0), 8);
        Due.is("set(5, 20)", x.set(5, 20), 0);
        Due.is("set(5, 20) again", x.set(5, 20), 20);
        for (int bad : BAD_CAPACITIES) {
            Due.is("set(5, " + bad + ")", x.set(5, bad), -2);
            Due.is("capacity(5) after a refused set", x.capacity(5), 20);
        }
        for (int bad : BAD_STREETS) {
            Due.is("set(" + bad + ", 1)", x.set(bad, 1), -1);
            Due.is("set(" + bad + ", 21)", x.set(bad, 21), -1);
            Due.is("capacity(" + bad + ")", x.capacity(bad), -1);
        }
    }

    private static void sow() {
        for (int seed = 0; seed <= 20; seed++) {
            for (int bend = 0; bend <= 20; bend++) {
                sown(seed, bend);
            }
        }
        GridDuals x = new GridDuals();
        x.sow(3, 2);
        for (int bad : BAD_CAPACITIES) {
            Due.is("sow(" + bad + ", 5)", x.sow(bad, 5), -1);
            Due.is("sow(" + bad + ", 21)", x.sow(bad, 21), -1);
            Due.is("sow(5, " + bad + ")", x.sow(5, bad), -2);
        }
        Due.is("capacity(0) after refused sows", x.capacity(0), 3);
        Due.is("capacity(1) after refused sows", x.capacity(1), 12);
        x.close(1, 1);
        Due.is("sow(3, 2) with a closed street", x.sow(3, 2), 152);
        Due.is("sow leaves a street closed", x.close(1, 1), 1);
    }

    private static void sown(int seed, int bend) {
        GridDuals x = new GridDuals();
        x.set(16, 20);
        int answer = x.sow(seed, bend);
        int sum = 0;
        for (int k = 0; k < 17; k++) {
            int want = (seed + 7 * k + k * k * bend) % 21;
            Due.is("sow(" + seed + ", " + bend + "): capacity(" + k + ")", x.capacity(k), want);
            sum += want;
        }
        Due.is("sow(" + seed + ", " + bend + ")", answer, sum);
    }

    private static void close() {
        GridDuals x = new GridDuals();
        for (int street = 0; street < 17; street++) {
            x.set(street, 7);
            Due.is("close(" + street + ", 1)", x.close(street, 1), 0);
            Due.is("close(" + street + ", -5)", x.close(street, -5), 1);
            Due.is("capacity(" + street + ") closed", x.capacity(street), 7);
            Due.is("set(" + street + ", 8) closed", x.set(street, 8), 7);
            Due.is("close(" + street + ", 0)", x.close(street, 0), 1);
            Due.is("close(" + street + ", 0) again", x.close(street, 0), 0);
            Due.is("close(" + street + ", least int)", x.close(street, Integer.MIN_VALUE), 0);
            Due.is("close(" + street + ", 2)", x.close(street, 2), 1);
            Due.is("capacity(" + street + ") set while closed", x.capacity(street), 8);
        }
        for (int bad : BAD_STREETS) {
            Due.is("close(" + bad + ", 1)", x.close(bad, 1), -1);
            Due.is("close(" + bad + ", 0)", x.close(bad, 0), -1);
        }
    }

    private static void between() {
        GridDuals x = new GridDuals();
        for (int a = 0; a < 12; a++) {
            for (int b = 0; b < 12; b++) {
                Due.is("between(" + a + ", " + b + ")", x.between(a, b), Model.street(a, b));
            }
        }
        Due.is("between(0, 1)", x.between(0, 1), 0);
        Due.is("between(11, 10)", x.between(11, 10), 8);
        Due.is("between(4, 0)", x.between(4, 0), 9);
        Due.is("between(7, 11)", x.between(7, 11), 16);
        Due.is("between(4, 3)", x.between(4, 3), -2);
        for (int bad : BAD_CROSSINGS) {
            Due.is("between(" + bad + ", 0)", x.between(bad, 0), -1);
            Due.is("between(0, " + bad + ")", x.between(0, bad), -1);
            Due.is("between(" + bad + ", " + bad + ")", x.between(bad, bad), -1);
        }
        Due.is("between(11, 12)", x.between(11, 12), -1);
        Due.is("between(32, 33)", x.between(32, 33), -1);
    }
}
