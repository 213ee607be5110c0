/**
 * All promises: long runs of calls in any order, each answer held against the model's. Changes and
 * refusals are followed by questions, so a question or a refused call that changed something is seen too.
 */
public final class ModelTest {
    private static final int RUNS = 120;
    private static final int CALLS = 512;
    private static final Picks PICK = new Picks(20261115L);

    public static void main(String[] args) {
        for (int run = 0; run < RUNS; run++) {
            Held held = new Held();
            // Small capacities make many cuts of least weight, large ones few.
            int most = run % 4 == 0 ? 20 : run % 4;
            while (held.calls() < CALLS) {
                step(held, most);
            }
        }
        Due.end();
    }

    private static int street() {
        return PICK.from(-1, 17);
    }

    private static int crossing() {
        return PICK.from(-1, 12);
    }

    private static void step(Held held, int most) {
        switch (PICK.from(0, 19)) {
            case 0: case 1: case 2: case 3: case 4: held.set(street(), PICK.from(-1, most)); break;
            case 5: seldomSow(held); break;
            case 6: held.close(street(), PICK.from(0, 3) == 0 ? PICK.from(-3, 3) : 0); break;
            case 7: held.capacity(street()); break;
            case 8: held.between(crossing(), crossing()); break;
            case 9: held.flow(); break;
            case 10: held.weight(PICK.from(0, 9) == 0 ? PICK.from(-2, 4100) : 2 * PICK.from(0, 1023) + 1); break;
            case 11: held.firstCut(); break;
            case 12: held.lastCut(); break;
            case 13: held.leastWith(crossing()); break;
            case 14: held.leastWithout(crossing()); break;
            case 15: held.loss(street()); break;
            case 16: held.gain(street(), PICK.from(0, 1) == 0 ? PICK.from(0, 5) : PICK.from(-1, 101)); break;
            case 17: case 18: held.way(crossing(), crossing()); break;
            default: held.cutStreets(); break;
        }
    }

    /** Sown too often, the grid would hardly ever have small capacities. */
    private static void seldomSow(Held held) {
        if (PICK.from(0, 9) == 0) {
            held.sow(PICK.from(-1, 21), PICK.from(-1, 21));
        }
    }
}
