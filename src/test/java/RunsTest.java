/**
 * All promises: runs of 512 calls on one object, in rounds. A round changes a capacity, sows, closes or
 * opens, and then asks every question, so that an answer kept from before the change is seen.
 */
public final class RunsTest {
    private static final int RUNS = 60;
    private static final int CALLS = 512;
    private static final int CALLS_OF_STATE = 34;
    private static final int QUESTIONS = 12;
    private static final int AGAIN_AND_AGAIN = 5;
    private static final String[] METHODS = {"set", "sow", "close", "capacity", "between", "flow", "weight",
        "firstCut", "lastCut", "leastWith", "leastWithout", "loss", "gain", "way", "cutStreets"};
    private static final Picks PICK = new Picks(20261116L);

    public static void main(String[] args) {
        for (int run = 0; run < RUNS; run++) {
            run(run);
        }
        Due.end();
    }

    /** Two objects are used by turns: what one is told must not reach the other. */
    private static void run(int run) {
        Held[] both = {new Held(), new Held()};
        for (int round = 0; both[0].calls() < CALLS - CALLS_OF_STATE; round++) {
            change(both[0], run + round);
            change(both[1], run + round + 1);
            for (int question = 0; question < QUESTIONS; question++) {
                // Each question is at times the first one after a change.
                askIfCallsAreLeft(both[0], (question + round) % QUESTIONS);
                askIfCallsAreLeft(both[1], (question + run) % QUESTIONS);
            }
        }
        for (Held held : both) {
            held.state();
            Due.is("calls of run " + run, held.calls(), CALLS);
            for (String method : METHODS) {
                Due.holds(method + " is called again and again in run " + run,
                    held.timesCalled(method) >= AGAIN_AND_AGAIN);
            }
        }
    }

    private static int street() {
        return PICK.from(0, 16);
    }

    private static int crossing() {
        return PICK.from(0, 11);
    }

    private static void change(Held held, int turn) {
        switch (turn % 7) {
            case 0: held.sow(PICK.from(0, 20), PICK.from(0, 20)); break;
            case 1: held.close(street(), 1); break;
            case 2: held.set(street(), PICK.from(0, 2)); break;
            case 3: held.close(street(), PICK.from(-2, 2)); break;
            case 4: held.set(street(), PICK.from(18, 20)); break;
            case 5: refused(held); break;
            default: held.close(street(), 0); break;
        }
    }

    private static void refused(Held held) {
        switch (PICK.from(0, 4)) {
            case 0: held.set(PICK.from(17, 40), 5); break;
            case 1: held.set(street(), PICK.from(21, 40)); break;
            case 2: held.sow(PICK.from(21, 40), 5); break;
            case 3: held.sow(5, PICK.from(-20, -1)); break;
            default: held.close(PICK.from(-20, -1), 1); break;
        }
    }

    private static void askIfCallsAreLeft(Held held, int question) {
        if (held.calls() < CALLS - CALLS_OF_STATE) {
            ask(held, question);
        }
    }

    private static void ask(Held held, int question) {
        switch (question) {
            case 0: held.capacity(street()); break;
            case 1: held.between(crossing(), crossing()); break;
            case 2: held.flow(); break;
            case 3: held.weight(2 * PICK.from(0, 1023) + 1); break;
            case 4: held.firstCut(); break;
            case 5: held.lastCut(); break;
            case 6: held.leastWith(crossing()); break;
            case 7: held.leastWithout(crossing()); break;
            case 8: held.loss(street()); break;
            case 9: held.gain(street(), PICK.from(0, 100)); break;
            case 10: held.way(crossing(), crossing()); break;
            default: held.cutStreets(); break;
        }
    }
}
